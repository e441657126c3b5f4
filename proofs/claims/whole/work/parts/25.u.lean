/-! WHAT MUST HOLD AHEAD OF EACH METHOD, by program. -/
/-- LightAlongModel.no(I)I -/
theorem pu_e149 {X : px_X} {x1 : Int32} {D : pu_D} {P : Int32 → pu_D → Prop} 
    (H : (px_in (-x1) 8 = true) ∧ (px_in (-x1) 8 = true) ∧ P x1 (pu_wi D 86 (-x1).toNatClampNeg ((D.1 86 (-x1).toNatClampNeg) + 1))) :
    pu_I X 149 [.ref 85, .int x1] D P := by
  refine pu_ent (E := [.ref 85, .int x1]) pu_n149.1 pu_n149.2 pu_t149_0 rfl ?_
  refine pu_aload_n rfl ?_
  refine pu_getR pu_kr8_12 pu_c85 pu_r85_12 ?_
  refine pu_iload_n rfl ?_
  refine pu_ineg ?_
  refine pu_dup2 rfl rfl ?_
  refine pu_ial pu_c86 pu_ln86 H.1 ?_
  replace H := H.2
  refine pu_iconst ?_
  refine pu_iadd ?_
  refine pu_ias pu_c86 pu_ln86 H.1 ?_
  replace H := H.2
  refine pu_iload_n rfl ?_
  exact pu_iretI pu_rt149 H
/-- LightAlongModel.noTen(I)I -/
theorem pu_e150 {X : px_X} {x1 : Int32} {D : pu_D} {P : Int32 → pu_D → Prop} 
    (H : (px_in (-x1) 8 = true) ∧ (px_in (-x1) 8 = true) ∧ P (x1 - 10) (pu_wi D 86 (-x1).toNatClampNeg ((D.1 86 (-x1).toNatClampNeg) + 1))) :
    pu_I X 150 [.ref 85, .int x1] D P := by
  refine pu_ent (E := [.ref 85, .int x1]) pu_n150.1 pu_n150.2 pu_t150_0 rfl ?_
  refine pu_aload_n rfl ?_
  refine pu_getR pu_kr8_12 pu_c85 pu_r85_12 ?_
  refine pu_iload_n rfl ?_
  refine pu_ineg ?_
  refine pu_dup2 rfl rfl ?_
  refine pu_ial pu_c86 pu_ln86 H.1 ?_
  replace H := H.2
  refine pu_iconst ?_
  refine pu_iadd ?_
  refine pu_ias pu_c86 pu_ln86 H.1 ?_
  replace H := H.2
  refine pu_iload_n rfl ?_
  refine pu_bipush ?_
  refine pu_isub ?_
  exact pu_iretI pu_rt150 H
/-- LightAlongModel.isShelf(I)Z -/
theorem pu_e151 {X : px_X} {x1 : Int32} {D : pu_D} {P : Int32 → pu_D → Prop} 
    (H : if x1 < 0 then (P 0 D) else (if x1 < 8 then (P 1 D) else (P 0 D))) :
    pu_I X 151 [.ref 85, .int x1] D P := by
  refine pu_ent (E := [.ref 85, .int x1]) pu_n151.1 pu_n151.2 pu_t151_0 rfl ?_
  refine pu_iload_n rfl ?_
  refine pu_lt0 pu_t151_14 (fun h1 => ?_) (fun h1 => ?_)
  · replace H := pu_t h1 H
    refine pu_iconst ?_
    exact pu_iretZ pu_rt151 (by decide) H
  · replace H := pu_f h1 H
    refine pu_iload_n rfl ?_
    refine pu_bipush ?_
    refine pu_ge_ pu_t151_14 (fun h2 => ?_) (fun h2 => ?_)
    · replace H := pu_f h2 H
      refine pu_iconst ?_
      exact pu_iretZ pu_rt151 (by decide) H
    · replace H := pu_t h2 H
      refine pu_iconst ?_
      refine pu_goto pu_t151_15 ?_
      exact pu_iretZ pu_rt151 (by decide) H
/-- LightAlongModel.isPoint(I)Z -/
theorem pu_e152 {X : px_X} {x1 : Int32} {D : pu_D} {P : Int32 → pu_D → Prop} 
    (H : if x1 < 0 then (P 0 D) else (if x1 < 120 then (P 1 D) else (P 0 D))) :
    pu_I X 152 [.ref 85, .int x1] D P := by
  refine pu_ent (E := [.ref 85, .int x1]) pu_n152.1 pu_n152.2 pu_t152_0 rfl ?_
  refine pu_iload_n rfl ?_
  refine pu_lt0 pu_t152_14 (fun h1 => ?_) (fun h1 => ?_)
  · replace H := pu_t h1 H
    refine pu_iconst ?_
    exact pu_iretZ pu_rt152 (by decide) H
  · replace H := pu_f h1 H
    refine pu_iload_n rfl ?_
    refine pu_bipush ?_
    refine pu_ge_ pu_t152_14 (fun h2 => ?_) (fun h2 => ?_)
    · replace H := pu_f h2 H
      refine pu_iconst ?_
      exact pu_iretZ pu_rt152 (by decide) H
    · replace H := pu_t h2 H
      refine pu_iconst ?_
      refine pu_goto pu_t152_15 ?_
      exact pu_iretZ pu_rt152 (by decide) H
/-- LightAlongModel.isSort(I)Z -/
theorem pu_e153 {X : px_X} {x1 : Int32} {D : pu_D} {P : Int32 → pu_D → Prop} 
    (H : if x1 < 0 then (P 0 D) else (if x1 < (D.1 85 0) then (P 1 D) else (P 0 D))) :
    pu_I X 153 [.ref 85, .int x1] D P := by
  refine pu_ent (E := [.ref 85, .int x1]) pu_n153.1 pu_n153.2 pu_t153_0 rfl ?_
  refine pu_iload_n rfl ?_
  refine pu_lt0 pu_t153_16 (fun h1 => ?_) (fun h1 => ?_)
  · replace H := pu_t h1 H
    refine pu_iconst ?_
    exact pu_iretZ pu_rt153 (by decide) H
  · replace H := pu_f h1 H
    refine pu_iload_n rfl ?_
    refine pu_aload_n rfl ?_
    refine pu_getI pu_k8_0 pu_c85 ?_
    refine pu_ge_ pu_t153_16 (fun h2 => ?_) (fun h2 => ?_)
    · replace H := pu_f h2 H
      refine pu_iconst ?_
      exact pu_iretZ pu_rt153 (by decide) H
    · replace H := pu_t h2 H
      refine pu_iconst ?_
      refine pu_goto pu_t153_17 ?_
      exact pu_iretZ pu_rt153 (by decide) H
/-- LightAlongModel.isPlace(I)Z -/
theorem pu_e154 {X : px_X} {x1 : Int32} {D : pu_D} {P : Int32 → pu_D → Prop} 
    (H : if x1 < 0 then (P 0 D) else (if x1 < (D.1 85 1) then (P 1 D) else (P 0 D))) :
    pu_I X 154 [.ref 85, .int x1] D P := by
  refine pu_ent (E := [.ref 85, .int x1]) pu_n154.1 pu_n154.2 pu_t154_0 rfl ?_
  refine pu_iload_n rfl ?_
  refine pu_lt0 pu_t154_16 (fun h1 => ?_) (fun h1 => ?_)
  · replace H := pu_t h1 H
    refine pu_iconst ?_
    exact pu_iretZ pu_rt154 (by decide) H
  · replace H := pu_f h1 H
    refine pu_iload_n rfl ?_
    refine pu_aload_n rfl ?_
    refine pu_getI pu_k8_1 pu_c85 ?_
    refine pu_ge_ pu_t154_16 (fun h2 => ?_) (fun h2 => ?_)
    · replace H := pu_f h2 H
      refine pu_iconst ?_
      exact pu_iretZ pu_rt154 (by decide) H
    · replace H := pu_t h2 H
      refine pu_iconst ?_
      refine pu_goto pu_t154_17 ?_
      exact pu_iretZ pu_rt154 (by decide) H
/-- LightAlongModel.isSet(I)Z -/
theorem pu_e155 {X : px_X} {x1 : Int32} {D : pu_D} {P : Int32 → pu_D → Prop} 
    (H : if x1 < 0 then (P 0 D) else (if x1 < (1 <<< ((D.1 85 1) &&& 31)) then (P 1 D) else (P 0 D))) :
    pu_I X 155 [.ref 85, .int x1] D P := by
  refine pu_ent (E := [.ref 85, .int x1]) pu_n155.1 pu_n155.2 pu_t155_0 rfl ?_
  refine pu_iload_n rfl ?_
  refine pu_lt0 pu_t155_18 (fun h1 => ?_) (fun h1 => ?_)
  · replace H := pu_t h1 H
    refine pu_iconst ?_
    exact pu_iretZ pu_rt155 (by decide) H
  · replace H := pu_f h1 H
    refine pu_iload_n rfl ?_
    refine pu_iconst ?_
    refine pu_aload_n rfl ?_
    refine pu_getI pu_k8_1 pu_c85 ?_
    refine pu_ishl ?_
    refine pu_ge_ pu_t155_18 (fun h2 => ?_) (fun h2 => ?_)
    · replace H := pu_f h2 H
      refine pu_iconst ?_
      exact pu_iretZ pu_rt155 (by decide) H
    · replace H := pu_t h2 H
      refine pu_iconst ?_
      refine pu_goto pu_t155_19 ?_
      exact pu_iretZ pu_rt155 (by decide) H
/-- LightAlongModel.isHour(I)Z -/
theorem pu_e156 {X : px_X} {x1 : Int32} {D : pu_D} {P : Int32 → pu_D → Prop} 
    (H : if x1 < 0 then (P 0 D) else (if x1 < 12 then (P 1 D) else (P 0 D))) :
    pu_I X 156 [.ref 85, .int x1] D P := by
  refine pu_ent (E := [.ref 85, .int x1]) pu_n156.1 pu_n156.2 pu_t156_0 rfl ?_
  refine pu_iload_n rfl ?_
  refine pu_lt0 pu_t156_14 (fun h1 => ?_) (fun h1 => ?_)
  · replace H := pu_t h1 H
    refine pu_iconst ?_
    exact pu_iretZ pu_rt156 (by decide) H
  · replace H := pu_f h1 H
    refine pu_iload_n rfl ?_
    refine pu_bipush ?_
    refine pu_ge_ pu_t156_14 (fun h2 => ?_) (fun h2 => ?_)
    · replace H := pu_f h2 H
      refine pu_iconst ?_
      exact pu_iretZ pu_rt156 (by decide) H
    · replace H := pu_t h2 H
      refine pu_iconst ?_
      refine pu_goto pu_t156_15 ?_
      exact pu_iretZ pu_rt156 (by decide) H
/-- LightAlongModel.row(III)I -/
def pu_h157_78 (X : px_X) (x1 : Int32) (x4 : Int32) (D : pu_D) (P : Int32 → pu_D → Prop) : Prop := ∀ z2 : Value, z2.category = 1 → ∀ z3 : Value, z3.category = 1 → pu_W X 157 (0, 0) px_c157_78 [.ref 85, .int x1, z2, z3, .int x4] [] D (pu_qi P)
theorem pu_u157_78 {X : px_X} {x1 : Int32} {x4 : Int32} {D : pu_D} {P : Int32 → pu_D → Prop} 
    (H : if x4 < 120 then ((px_in ((120 * x1) + x4) 960 = true) ∧ pu_h157_78 X x1 (x4 + 1) (pu_wl D 108 ((120 * x1) + x4).toNatClampNeg (Int64.ofNat 0)) P) else (P 1 D)) :
    pu_h157_78 X x1 x4 D P := by
  intro z2 hz2 z3 hz3
  refine pu_iload rfl ?_
  refine pu_bipush ?_
  refine pu_ge_ pu_t157_104 (fun h18 => ?_) (fun h18 => ?_)
  · replace H := pu_f h18 H
    refine pu_iconst ?_
    exact pu_iretI pu_rt157 H
  · replace H := pu_t h18 H
    refine pu_aload_n rfl ?_
    refine pu_getR pu_kr8_34 pu_c85 pu_r85_34 ?_
    refine pu_bipush ?_
    refine pu_iload_n rfl ?_
    refine pu_imul ?_
    refine pu_iload rfl ?_
    refine pu_iadd ?_
    refine pu_lconst ?_
    refine pu_las pu_c108 pu_ln108 H.1 ?_
    replace H := H.2
    refine pu_iinc (L' := [.ref 85, .int x1, z2, z3, .int (x4 + 1)]) rfl (Or.inr hz3) rfl ?_
    refine pu_goto pu_t157_78 ?_
    exact H _ hz2 _ hz3
theorem pu_e157 {X : px_X} {x1 : Int32} {x2 : Int32} {x3 : Int32} {D : pu_D} {P : Int32 → pu_D → Prop} 
    (H : pu_I X 151 [.ref 85, .int x1] D (fun y1 D2 => if y1 = 0 then (pu_I X 149 [.ref 85, .int (-1)] D2 (fun y16 D17 => P y16 D17)) else (if x3 < 0 then (pu_I X 149 [.ref 85, .int (-4)] D2 (fun y14 D15 => P y14 D15)) else (if x2 < 0 then (pu_I X 149 [.ref 85, .int (-6)] D2 (fun y6 D7 => P y6 D7)) else (if 3 < x2 then (pu_I X 149 [.ref 85, .int (-6)] D2 (fun y12 D13 => P y12 D13)) else (if 120 < x3 then (pu_I X 149 [.ref 85, .int (-7)] D2 (fun y10 D11 => P y10 D11)) else ((px_in x1 8 = true) ∧ (px_in x1 8 = true) ∧ (px_in x1 8 = true) ∧ pu_h157_78 X x1 0 (pu_wi (pu_wi (pu_wi D2 103 x1.toNatClampNeg 1) 104 x1.toNatClampNeg x2) 105 x1.toNatClampNeg x3) P))))))) :
    pu_I X 157 [.ref 85, .int x1, .int x2, .int x3] D P := by
  refine pu_ent (E := [.ref 85, .int x1, .int x2, .int x3, .null]) pu_n157.1 pu_n157.2 pu_t157_0 rfl ?_
  refine pu_aload_n rfl ?_
  refine pu_iload_n rfl ?_
  refine pu_cv (vs := [.int x1]) (rest := []) pu_g151 ⟨pu_c85, by decide⟩ rfl rfl rfl rfl rfl (pu_CI (pu_I_imp H (fun y1 D2 H => ?_)))
  refine pu_ne0 pu_t157_14 (fun h3 => ?_) (fun h3 => ?_)
  · replace H := pu_f h3 H
    refine pu_iload_n rfl ?_
    refine pu_ge0 pu_t157_25 (fun h4 => ?_) (fun h4 => ?_)
    · replace H := pu_f h4 H
      refine pu_iload_n rfl ?_
      refine pu_lt0 pu_t157_34 (fun h5 => ?_) (fun h5 => ?_)
      · replace H := pu_t h5 H
        refine pu_aload_n rfl ?_
        refine pu_bipush ?_
        refine pu_cv (vs := [.int (-6)]) (rest := []) pu_g149 ⟨pu_c85, by decide⟩ rfl rfl rfl rfl rfl (pu_CI (pu_I_imp H (fun y6 D7 H => ?_)))
        exact pu_iretI pu_rt157 H
      · replace H := pu_f h5 H
        refine pu_iload_n rfl ?_
        refine pu_iconst ?_
        refine pu_le_ pu_t157_41 (fun h8 => ?_) (fun h8 => ?_)
        · replace H := pu_f h8 H
          refine pu_iload_n rfl ?_
          refine pu_bipush ?_
          refine pu_le_ pu_t157_54 (fun h9 => ?_) (fun h9 => ?_)
          · replace H := pu_f h9 H
            refine pu_aload_n rfl ?_
            refine pu_getR pu_kr8_29 pu_c85 pu_r85_29 ?_
            refine pu_iload_n rfl ?_
            refine pu_iconst ?_
            refine pu_ias pu_c103 pu_ln103 H.1 ?_
            replace H := H.2
            refine pu_aload_n rfl ?_
            refine pu_getR pu_kr8_30 pu_c85 pu_r85_30 ?_
            refine pu_iload_n rfl ?_
            refine pu_iload_n rfl ?_
            refine pu_ias pu_c104 pu_ln104 H.1 ?_
            replace H := H.2
            refine pu_aload_n rfl ?_
            refine pu_getR pu_kr8_31 pu_c85 pu_r85_31 ?_
            refine pu_iload_n rfl ?_
            refine pu_iload_n rfl ?_
            refine pu_ias pu_c105 pu_ln105 H.1 ?_
            replace H := H.2
            refine pu_iconst ?_
            refine pu_istore (L' := [.ref 85, .int x1, .int x2, .int x3, .int 0]) (Or.inr rfl) rfl ?_
            exact H _ rfl _ rfl
          · replace H := pu_t h9 H
            refine pu_aload_n rfl ?_
            refine pu_bipush ?_
            refine pu_cv (vs := [.int (-7)]) (rest := []) pu_g149 ⟨pu_c85, by decide⟩ rfl rfl rfl rfl rfl (pu_CI (pu_I_imp H (fun y10 D11 H => ?_)))
            exact pu_iretI pu_rt157 H
        · replace H := pu_t h8 H
          refine pu_aload_n rfl ?_
          refine pu_bipush ?_
          refine pu_cv (vs := [.int (-6)]) (rest := []) pu_g149 ⟨pu_c85, by decide⟩ rfl rfl rfl rfl rfl (pu_CI (pu_I_imp H (fun y12 D13 H => ?_)))
          exact pu_iretI pu_rt157 H
    · replace H := pu_t h4 H
      refine pu_aload_n rfl ?_
      refine pu_bipush ?_
      refine pu_cv (vs := [.int (-4)]) (rest := []) pu_g149 ⟨pu_c85, by decide⟩ rfl rfl rfl rfl rfl (pu_CI (pu_I_imp H (fun y14 D15 H => ?_)))
      exact pu_iretI pu_rt157 H
  · replace H := pu_t h3 H
    refine pu_aload_n rfl ?_
    refine pu_iconst ?_
    refine pu_cv (vs := [.int (-1)]) (rest := []) pu_g149 ⟨pu_c85, by decide⟩ rfl rfl rfl rfl rfl (pu_CI (pu_I_imp H (fun y16 D17 H => ?_)))
    exact pu_iretI pu_rt157 H
/-- LightAlongModel.set(IIJ)I -/
theorem pu_e158 {X : px_X} {x1 : Int32} {x2 : Int32} {x3 : Int64} {D : pu_D} {P : Int32 → pu_D → Prop} 
    (H : pu_I X 151 [.ref 85, .int x1] D (fun y1 D2 => if y1 = 0 then (pu_I X 149 [.ref 85, .int (-1)] D2 (fun y19 D20 => P y19 D20)) else ((px_in x1 8 = true) ∧ if (D2.1 103 x1.toNatClampNeg) = 2 then (pu_I X 149 [.ref 85, .int (-2)] D2 (fun y17 D18 => P y17 D18)) else ((px_in x1 8 = true) ∧ if (D2.1 103 x1.toNatClampNeg) = 0 then (pu_I X 149 [.ref 85, .int (-3)] D2 (fun y15 D16 => P y15 D16)) else (if x2 < 0 then (pu_I X 149 [.ref 85, .int (-5)] D2 (fun y7 D8 => P y7 D8)) else ((px_in x1 8 = true) ∧ if x2 < (D2.1 105 x1.toNatClampNeg) then ((px_in x1 8 = true) ∧ if (D2.1 104 x1.toNatClampNeg) = 0 then ((px_in ((120 * x1) + x2) 960 = true) ∧ P 1 (pu_wl D2 108 ((120 * x1) + x2).toNatClampNeg (Int32.toInt64 ((Int32.toInt8 (Int64.toInt32 x3)).toInt32)))) else ((px_in x1 8 = true) ∧ if (D2.1 104 x1.toNatClampNeg) = 1 then ((px_in ((120 * x1) + x2) 960 = true) ∧ P 1 (pu_wl D2 108 ((120 * x1) + x2).toNatClampNeg (Int32.toInt64 ((Int32.toInt16 (Int64.toInt32 x3)).toInt32)))) else ((px_in x1 8 = true) ∧ if (D2.1 104 x1.toNatClampNeg) = 2 then ((px_in ((120 * x1) + x2) 960 = true) ∧ P 1 (pu_wl D2 108 ((120 * x1) + x2).toNatClampNeg (Int32.toInt64 (Int64.toInt32 x3)))) else ((px_in ((120 * x1) + x2) 960 = true) ∧ P 1 (pu_wl D2 108 ((120 * x1) + x2).toNatClampNeg x3))))) else (pu_I X 149 [.ref 85, .int (-5)] D2 (fun y13 D14 => P y13 D14)))))))) :
    pu_I X 158 [.ref 85, .int x1, .int x2, .long x3] D P := by
  refine pu_ent (E := [.ref 85, .int x1, .int x2, .long x3, .null]) pu_n158.1 pu_n158.2 pu_t158_0 rfl ?_
  refine pu_aload_n rfl ?_
  refine pu_iload_n rfl ?_
  refine pu_cv (vs := [.int x1]) (rest := []) pu_g151 ⟨pu_c85, by decide⟩ rfl rfl rfl rfl rfl (pu_CI (pu_I_imp H (fun y1 D2 H => ?_)))
  refine pu_ne0 pu_t158_14 (fun h3 => ?_) (fun h3 => ?_)
  · replace H := pu_f h3 H
    refine pu_aload_n rfl ?_
    refine pu_getR pu_kr8_29 pu_c85 pu_r85_29 ?_
    refine pu_iload_n rfl ?_
    refine pu_ial pu_c103 pu_ln103 H.1 ?_
    replace H := H.2
    refine pu_iconst ?_
    refine pu_ne_ pu_t158_31 (fun h4 => ?_) (fun h4 => ?_)
    · replace H := pu_f h4 H
      refine pu_aload_n rfl ?_
      refine pu_getR pu_kr8_29 pu_c85 pu_r85_29 ?_
      refine pu_iload_n rfl ?_
      refine pu_ial pu_c103 pu_ln103 H.1 ?_
      replace H := H.2
      refine pu_ne0 pu_t158_47 (fun h5 => ?_) (fun h5 => ?_)
      · replace H := pu_f h5 H
        refine pu_iload_n rfl ?_
        refine pu_lt0 pu_t158_61 (fun h6 => ?_) (fun h6 => ?_)
        · replace H := pu_t h6 H
          refine pu_aload_n rfl ?_
          refine pu_bipush ?_
          refine pu_cv (vs := [.int (-5)]) (rest := []) pu_g149 ⟨pu_c85, by decide⟩ rfl rfl rfl rfl rfl (pu_CI (pu_I_imp H (fun y7 D8 H => ?_)))
          exact pu_iretI pu_rt158 H
        · replace H := pu_f h6 H
          refine pu_iload_n rfl ?_
          refine pu_aload_n rfl ?_
          refine pu_getR pu_kr8_31 pu_c85 pu_r85_31 ?_
          refine pu_iload_n rfl ?_
          refine pu_ial pu_c105 pu_ln105 H.1 ?_
          replace H := H.2
          refine pu_lt_ pu_t158_68 (fun h9 => ?_) (fun h9 => ?_)
          · replace H := pu_t h9 H
            refine pu_aload_n rfl ?_
            refine pu_getR pu_kr8_34 pu_c85 pu_r85_34 ?_
            refine pu_bipush ?_
            refine pu_iload_n rfl ?_
            refine pu_imul ?_
            refine pu_iload_n rfl ?_
            refine pu_iadd ?_
            refine pu_aload_n rfl ?_
            refine pu_getR pu_kr8_30 pu_c85 pu_r85_30 ?_
            refine pu_iload_n rfl ?_
            refine pu_ial pu_c104 pu_ln104 H.1 ?_
            replace H := H.2
            refine pu_ne0 pu_t158_94 (fun h10 => ?_) (fun h10 => ?_)
            · replace H := pu_f h10 H
              refine pu_aload_n rfl ?_
              refine pu_getR pu_kr8_30 pu_c85 pu_r85_30 ?_
              refine pu_iload_n rfl ?_
              refine pu_ial pu_c104 pu_ln104 H.1 ?_
              replace H := H.2
              refine pu_iconst ?_
              refine pu_ne_ pu_t158_111 (fun h11 => ?_) (fun h11 => ?_)
              · replace H := pu_f h11 H
                refine pu_aload_n rfl ?_
                refine pu_getR pu_kr8_30 pu_c85 pu_r85_30 ?_
                refine pu_iload_n rfl ?_
                refine pu_ial pu_c104 pu_ln104 H.1 ?_
                replace H := H.2
                refine pu_iconst ?_
                refine pu_ne_ pu_t158_127 (fun h12 => ?_) (fun h12 => ?_)
                · replace H := pu_f h12 H
                  refine pu_lload_n rfl ?_
                  refine pu_las pu_c108 pu_ln108 H.1 ?_
                  replace H := H.2
                  refine pu_iconst ?_
                  exact pu_iretI pu_rt158 H
                · replace H := pu_t h12 H
                  refine pu_lload_n rfl ?_
                  refine pu_l2i ?_
                  refine pu_i2l ?_
                  refine pu_goto pu_t158_128 ?_
                  refine pu_las pu_c108 pu_ln108 H.1 ?_
                  replace H := H.2
                  refine pu_iconst ?_
                  exact pu_iretI pu_rt158 H
              · replace H := pu_t h11 H
                refine pu_lload_n rfl ?_
                refine pu_l2i ?_
                refine pu_i2s ?_
                refine pu_i2l ?_
                refine pu_goto pu_t158_128 ?_
                refine pu_las pu_c108 pu_ln108 H.1 ?_
                replace H := H.2
                refine pu_iconst ?_
                exact pu_iretI pu_rt158 H
            · replace H := pu_t h10 H
              refine pu_lload_n rfl ?_
              refine pu_l2i ?_
              refine pu_i2b ?_
              refine pu_i2l ?_
              refine pu_goto pu_t158_128 ?_
              refine pu_las pu_c108 pu_ln108 H.1 ?_
              replace H := H.2
              refine pu_iconst ?_
              exact pu_iretI pu_rt158 H
          · replace H := pu_f h9 H
            refine pu_aload_n rfl ?_
            refine pu_bipush ?_
            refine pu_cv (vs := [.int (-5)]) (rest := []) pu_g149 ⟨pu_c85, by decide⟩ rfl rfl rfl rfl rfl (pu_CI (pu_I_imp H (fun y13 D14 H => ?_)))
            exact pu_iretI pu_rt158 H
      · replace H := pu_t h5 H
        refine pu_aload_n rfl ?_
        refine pu_bipush ?_
        refine pu_cv (vs := [.int (-3)]) (rest := []) pu_g149 ⟨pu_c85, by decide⟩ rfl rfl rfl rfl rfl (pu_CI (pu_I_imp H (fun y15 D16 H => ?_)))
        exact pu_iretI pu_rt158 H
    · replace H := pu_t h4 H
      refine pu_aload_n rfl ?_
      refine pu_bipush ?_
      refine pu_cv (vs := [.int (-2)]) (rest := []) pu_g149 ⟨pu_c85, by decide⟩ rfl rfl rfl rfl rfl (pu_CI (pu_I_imp H (fun y17 D18 H => ?_)))
      exact pu_iretI pu_rt158 H
  · replace H := pu_t h3 H
    refine pu_aload_n rfl ?_
    refine pu_iconst ?_
    refine pu_cv (vs := [.int (-1)]) (rest := []) pu_g149 ⟨pu_c85, by decide⟩ rfl rfl rfl rfl rfl (pu_CI (pu_I_imp H (fun y19 D20 H => ?_)))
    exact pu_iretI pu_rt158 H
/-- LightAlongModel.copy(IIIII)I -/
def pu_h159_167 (X : px_X) (x1 : Int32) (x2 : Int32) (x3 : Int32) (x4 : Int32) (x5 : Int32) (x6 : Int32) (D : pu_D) (P : Int32 → pu_D → Prop) : Prop := pu_W X 159 (0, 0) px_c159_167 [.ref 85, .int x1, .int x2, .int x3, .int x4, .int x5, .int x6] [] D (pu_qi P)
def pu_h159_204 (X : px_X) (x2 : Int32) (x4 : Int32) (x5 : Int32) (x6 : Int32) (D : pu_D) (P : Int32 → pu_D → Prop) : Prop := ∀ z1 : Value, z1.category = 1 → ∀ z3 : Value, z3.category = 1 → pu_W X 159 (0, 0) px_c159_204 [.ref 85, z1, .int x2, z3, .int x4, .int x5, .int x6] [] D (pu_qi P)
theorem pu_u159_167 {X : px_X} {x1 : Int32} {x2 : Int32} {x3 : Int32} {x4 : Int32} {x5 : Int32} {x6 : Int32} {D : pu_D} {P : Int32 → pu_D → Prop} 
    (H : if x6 < x5 then ((px_in (((120 * x1) + x3) + x6) 960 = true) ∧ (px_in x6 120 = true) ∧ pu_h159_167 X x1 x2 x3 x4 x5 (x6 + 1) (pu_wl D 109 x6.toNatClampNeg (D.2 108 (((120 * x1) + x3) + x6).toNatClampNeg)) P) else (pu_h159_204 X x2 x4 x5 0 D P)) :
    pu_h159_167 X x1 x2 x3 x4 x5 x6 D P := by
  refine pu_iload rfl ?_
  refine pu_iload rfl ?_
  refine pu_ge_ pu_t159_201 (fun h85 => ?_) (fun h85 => ?_)
  · replace H := pu_f h85 H
    refine pu_iconst ?_
    refine pu_istore (L' := [.ref 85, .int x1, .int x2, .int x3, .int x4, .int x5, .int 0]) (Or.inr rfl) rfl ?_
    exact H _ rfl _ rfl
  · replace H := pu_t h85 H
    refine pu_aload_n rfl ?_
    refine pu_getR pu_kr8_35 pu_c85 pu_r85_35 ?_
    refine pu_iload rfl ?_
    refine pu_aload_n rfl ?_
    refine pu_getR pu_kr8_34 pu_c85 pu_r85_34 ?_
    refine pu_bipush ?_
    refine pu_iload_n rfl ?_
    refine pu_imul ?_
    refine pu_iload_n rfl ?_
    refine pu_iadd ?_
    refine pu_iload rfl ?_
    refine pu_iadd ?_
    refine pu_lal pu_c108 pu_ln108 H.1 ?_
    replace H := H.2
    refine pu_las pu_c109 pu_ln109 H.1 ?_
    replace H := H.2
    refine pu_iinc (L' := [.ref 85, .int x1, .int x2, .int x3, .int x4, .int x5, .int (x6 + 1)]) rfl (Or.inr rfl) rfl ?_
    refine pu_goto pu_t159_167 ?_
    exact H 
theorem pu_u159_204 {X : px_X} {x2 : Int32} {x4 : Int32} {x5 : Int32} {x6 : Int32} {D : pu_D} {P : Int32 → pu_D → Prop} 
    (H : if x6 < x5 then ((px_in x6 120 = true) ∧ (px_in (((120 * x2) + x4) + x6) 960 = true) ∧ pu_h159_204 X x2 x4 x5 (x6 + 1) (pu_wl D 108 (((120 * x2) + x4) + x6).toNatClampNeg (D.2 109 x6.toNatClampNeg)) P) else (P 1 D)) :
    pu_h159_204 X x2 x4 x5 x6 D P := by
  intro z1 hz1 z3 hz3
  refine pu_iload rfl ?_
  refine pu_iload rfl ?_
  refine pu_ge_ pu_t159_239 (fun h86 => ?_) (fun h86 => ?_)
  · replace H := pu_f h86 H
    refine pu_iconst ?_
    exact pu_iretI pu_rt159 H
  · replace H := pu_t h86 H
    refine pu_aload_n rfl ?_
    refine pu_getR pu_kr8_34 pu_c85 pu_r85_34 ?_
    refine pu_bipush ?_
    refine pu_iload_n rfl ?_
    refine pu_imul ?_
    refine pu_iload rfl ?_
    refine pu_iadd ?_
    refine pu_iload rfl ?_
    refine pu_iadd ?_
    refine pu_aload_n rfl ?_
    refine pu_getR pu_kr8_35 pu_c85 pu_r85_35 ?_
    refine pu_iload rfl ?_
    refine pu_lal pu_c109 pu_ln109 H.1 ?_
    replace H := H.2
    refine pu_las pu_c108 pu_ln108 H.1 ?_
    replace H := H.2
    refine pu_iinc (L' := [.ref 85, z1, .int x2, z3, .int x4, .int x5, .int (x6 + 1)]) rfl (Or.inr rfl) rfl ?_
    refine pu_goto pu_t159_204 ?_
    exact H _ hz1 _ hz3
theorem pu_e159 {X : px_X} {x1 : Int32} {x2 : Int32} {x3 : Int32} {x4 : Int32} {x5 : Int32} {D : pu_D} {P : Int32 → pu_D → Prop} 
    (H : pu_I X 151 [.ref 85, .int x1] D (fun y1 D2 => if y1 = 0 then (pu_I X 149 [.ref 85, .int (-1)] D2 (fun y4 D5 => P y4 D5)) else (pu_I X 151 [.ref 85, .int x2] D2 (fun y6 D7 => if y6 = 0 then (pu_I X 149 [.ref 85, .int (-1)] D7 (fun y83 D84 => P y83 D84)) else ((px_in x1 8 = true) ∧ if (D7.1 103 x1.toNatClampNeg) = 2 then (pu_I X 149 [.ref 85, .int (-2)] D7 (fun y10 D11 => P y10 D11)) else ((px_in x2 8 = true) ∧ if (D7.1 103 x2.toNatClampNeg) = 2 then (pu_I X 149 [.ref 85, .int (-2)] D7 (fun y13 D14 => P y13 D14)) else ((px_in x1 8 = true) ∧ if (D7.1 103 x1.toNatClampNeg) = 1 then ((px_in x2 8 = true) ∧ if (D7.1 103 x2.toNatClampNeg) = 1 then ((px_in x1 8 = true) ∧ (px_in x2 8 = true) ∧ if (D7.1 104 x1.toNatClampNeg) = (D7.1 104 x2.toNatClampNeg) then ((px_in x1 8 = true) ∧ if (D7.1 103 x1.toNatClampNeg) = 0 then (pu_I X 149 [.ref 85, .int (-3)] D7 (fun y61 D62 => P y61 D62)) else ((px_in x2 8 = true) ∧ if (D7.1 103 x2.toNatClampNeg) = 0 then (pu_I X 149 [.ref 85, .int (-3)] D7 (fun y79 D80 => P y79 D80)) else (if x5 < 0 then (pu_I X 149 [.ref 85, .int (-4)] D7 (fun y77 D78 => P y77 D78)) else (if x3 < 0 then (pu_I X 149 [.ref 85, .int (-5)] D7 (fun y66 D67 => P y66 D67)) else (if x4 < 0 then (pu_I X 149 [.ref 85, .int (-5)] D7 (fun y69 D70 => P y69 D70)) else ((px_in x1 8 = true) ∧ if ((D7.1 105 x1.toNatClampNeg) - x5) < x3 then (pu_I X 149 [.ref 85, .int (-5)] D7 (fun y72 D73 => P y72 D73)) else ((px_in x2 8 = true) ∧ if ((D7.1 105 x2.toNatClampNeg) - x5) < x4 then (pu_I X 149 [.ref 85, .int (-5)] D7 (fun y75 D76 => P y75 D76)) else (pu_h159_167 X x1 x2 x3 x4 x5 0 D7 P)))))))) else (pu_I X 149 [.ref 85, .int (-2)] D7 (fun y81 D82 => P y81 D82))) else ((px_in x1 8 = true) ∧ if (D7.1 103 x1.toNatClampNeg) = 0 then (pu_I X 149 [.ref 85, .int (-3)] D7 (fun y39 D40 => P y39 D40)) else ((px_in x2 8 = true) ∧ if (D7.1 103 x2.toNatClampNeg) = 0 then (pu_I X 149 [.ref 85, .int (-3)] D7 (fun y57 D58 => P y57 D58)) else (if x5 < 0 then (pu_I X 149 [.ref 85, .int (-4)] D7 (fun y55 D56 => P y55 D56)) else (if x3 < 0 then (pu_I X 149 [.ref 85, .int (-5)] D7 (fun y44 D45 => P y44 D45)) else (if x4 < 0 then (pu_I X 149 [.ref 85, .int (-5)] D7 (fun y47 D48 => P y47 D48)) else ((px_in x1 8 = true) ∧ if ((D7.1 105 x1.toNatClampNeg) - x5) < x3 then (pu_I X 149 [.ref 85, .int (-5)] D7 (fun y50 D51 => P y50 D51)) else ((px_in x2 8 = true) ∧ if ((D7.1 105 x2.toNatClampNeg) - x5) < x4 then (pu_I X 149 [.ref 85, .int (-5)] D7 (fun y53 D54 => P y53 D54)) else (pu_h159_167 X x1 x2 x3 x4 x5 0 D7 P))))))))) else ((px_in x1 8 = true) ∧ if (D7.1 103 x1.toNatClampNeg) = 0 then (pu_I X 149 [.ref 85, .int (-3)] D7 (fun y17 D18 => P y17 D18)) else ((px_in x2 8 = true) ∧ if (D7.1 103 x2.toNatClampNeg) = 0 then (pu_I X 149 [.ref 85, .int (-3)] D7 (fun y35 D36 => P y35 D36)) else (if x5 < 0 then (pu_I X 149 [.ref 85, .int (-4)] D7 (fun y33 D34 => P y33 D34)) else (if x3 < 0 then (pu_I X 149 [.ref 85, .int (-5)] D7 (fun y22 D23 => P y22 D23)) else (if x4 < 0 then (pu_I X 149 [.ref 85, .int (-5)] D7 (fun y25 D26 => P y25 D26)) else ((px_in x1 8 = true) ∧ if ((D7.1 105 x1.toNatClampNeg) - x5) < x3 then (pu_I X 149 [.ref 85, .int (-5)] D7 (fun y28 D29 => P y28 D29)) else ((px_in x2 8 = true) ∧ if ((D7.1 105 x2.toNatClampNeg) - x5) < x4 then (pu_I X 149 [.ref 85, .int (-5)] D7 (fun y31 D32 => P y31 D32)) else (pu_h159_167 X x1 x2 x3 x4 x5 0 D7 P))))))))))))))) :
    pu_I X 159 [.ref 85, .int x1, .int x2, .int x3, .int x4, .int x5] D P := by
  refine pu_ent (E := [.ref 85, .int x1, .int x2, .int x3, .int x4, .int x5, .null]) pu_n159.1 pu_n159.2 pu_t159_0 rfl ?_
  refine pu_aload_n rfl ?_
  refine pu_iload_n rfl ?_
  refine pu_cv (vs := [.int x1]) (rest := []) pu_g151 ⟨pu_c85, by decide⟩ rfl rfl rfl rfl rfl (pu_CI (pu_I_imp H (fun y1 D2 H => ?_)))
  refine pu_eq0 pu_t159_16 (fun h3 => ?_) (fun h3 => ?_)
  · replace H := pu_t h3 H
    refine pu_aload_n rfl ?_
    refine pu_iconst ?_
    refine pu_cv (vs := [.int (-1)]) (rest := []) pu_g149 ⟨pu_c85, by decide⟩ rfl rfl rfl rfl rfl (pu_CI (pu_I_imp H (fun y4 D5 H => ?_)))
    exact pu_iretI pu_rt159 H
  · replace H := pu_f h3 H
    refine pu_aload_n rfl ?_
    refine pu_iload_n rfl ?_
    refine pu_cv (vs := [.int x2]) (rest := []) pu_g151 ⟨pu_c85, by decide⟩ rfl rfl rfl rfl rfl (pu_CI (pu_I_imp H (fun y6 D7 H => ?_)))
    refine pu_ne0 pu_t159_22 (fun h8 => ?_) (fun h8 => ?_)
    · replace H := pu_f h8 H
      refine pu_aload_n rfl ?_
      refine pu_getR pu_kr8_29 pu_c85 pu_r85_29 ?_
      refine pu_iload_n rfl ?_
      refine pu_ial pu_c103 pu_ln103 H.1 ?_
      replace H := H.2
      refine pu_iconst ?_
      refine pu_eq_ pu_t159_77 (fun h9 => ?_) (fun h9 => ?_)
      · replace H := pu_t h9 H
        refine pu_aload_n rfl ?_
        refine pu_bipush ?_
        refine pu_cv (vs := [.int (-2)]) (rest := []) pu_g149 ⟨pu_c85, by decide⟩ rfl rfl rfl rfl rfl (pu_CI (pu_I_imp H (fun y10 D11 H => ?_)))
        exact pu_iretI pu_rt159 H
      · replace H := pu_f h9 H
        refine pu_aload_n rfl ?_
        refine pu_getR pu_kr8_29 pu_c85 pu_r85_29 ?_
        refine pu_iload_n rfl ?_
        refine pu_ial pu_c103 pu_ln103 H.1 ?_
        replace H := H.2
        refine pu_iconst ?_
        refine pu_eq_ pu_t159_77 (fun h12 => ?_) (fun h12 => ?_)
        · replace H := pu_t h12 H
          refine pu_aload_n rfl ?_
          refine pu_bipush ?_
          refine pu_cv (vs := [.int (-2)]) (rest := []) pu_g149 ⟨pu_c85, by decide⟩ rfl rfl rfl rfl rfl (pu_CI (pu_I_imp H (fun y13 D14 H => ?_)))
          exact pu_iretI pu_rt159 H
        · replace H := pu_f h12 H
          refine pu_aload_n rfl ?_
          refine pu_getR pu_kr8_29 pu_c85 pu_r85_29 ?_
          refine pu_iload_n rfl ?_
          refine pu_ial pu_c103 pu_ln103 H.1 ?_
          replace H := H.2
          refine pu_iconst ?_
          refine pu_ne_ pu_t159_84 (fun h15 => ?_) (fun h15 => ?_)
          · replace H := pu_f h15 H
            refine pu_aload_n rfl ?_
            refine pu_getR pu_kr8_29 pu_c85 pu_r85_29 ?_
            refine pu_iload_n rfl ?_
            refine pu_ial pu_c103 pu_ln103 H.1 ?_
            replace H := H.2
            refine pu_eq0 pu_t159_102 (fun h16 => ?_) (fun h16 => ?_)
            · replace H := pu_t h16 H
              refine pu_aload_n rfl ?_
              refine pu_bipush ?_
              refine pu_cv (vs := [.int (-3)]) (rest := []) pu_g149 ⟨pu_c85, by decide⟩ rfl rfl rfl rfl rfl (pu_CI (pu_I_imp H (fun y17 D18 H => ?_)))
              exact pu_iretI pu_rt159 H
            · replace H := pu_f h16 H
              refine pu_aload_n rfl ?_
              refine pu_getR pu_kr8_29 pu_c85 pu_r85_29 ?_
              refine pu_iload_n rfl ?_
              refine pu_ial pu_c103 pu_ln103 H.1 ?_
              replace H := H.2
              refine pu_ne0 pu_t159_109 (fun h19 => ?_) (fun h19 => ?_)
              · replace H := pu_f h19 H
                refine pu_iload rfl ?_
                refine pu_ge0 pu_t159_121 (fun h20 => ?_) (fun h20 => ?_)
                · replace H := pu_f h20 H
                  refine pu_iload_n rfl ?_
                  refine pu_lt0 pu_t159_157 (fun h21 => ?_) (fun h21 => ?_)
                  · replace H := pu_t h21 H
                    refine pu_aload_n rfl ?_
                    refine pu_bipush ?_
                    refine pu_cv (vs := [.int (-5)]) (rest := []) pu_g149 ⟨pu_c85, by decide⟩ rfl rfl rfl rfl rfl (pu_CI (pu_I_imp H (fun y22 D23 H => ?_)))
                    exact pu_iretI pu_rt159 H
                  · replace H := pu_f h21 H
                    refine pu_iload rfl ?_
                    refine pu_lt0 pu_t159_157 (fun h24 => ?_) (fun h24 => ?_)
                    · replace H := pu_t h24 H
                      refine pu_aload_n rfl ?_
                      refine pu_bipush ?_
                      refine pu_cv (vs := [.int (-5)]) (rest := []) pu_g149 ⟨pu_c85, by decide⟩ rfl rfl rfl rfl rfl (pu_CI (pu_I_imp H (fun y25 D26 H => ?_)))
                      exact pu_iretI pu_rt159 H
                    · replace H := pu_f h24 H
                      refine pu_iload_n rfl ?_
                      refine pu_aload_n rfl ?_
                      refine pu_getR pu_kr8_31 pu_c85 pu_r85_31 ?_
                      refine pu_iload_n rfl ?_
                      refine pu_ial pu_c105 pu_ln105 H.1 ?_
                      replace H := H.2
                      refine pu_iload rfl ?_
                      refine pu_isub ?_
                      refine pu_gt_ pu_t159_157 (fun h27 => ?_) (fun h27 => ?_)
                      · replace H := pu_t h27 H
                        refine pu_aload_n rfl ?_
                        refine pu_bipush ?_
                        refine pu_cv (vs := [.int (-5)]) (rest := []) pu_g149 ⟨pu_c85, by decide⟩ rfl rfl rfl rfl rfl (pu_CI (pu_I_imp H (fun y28 D29 H => ?_)))
                        exact pu_iretI pu_rt159 H
                      · replace H := pu_f h27 H
                        refine pu_iload rfl ?_
                        refine pu_aload_n rfl ?_
                        refine pu_getR pu_kr8_31 pu_c85 pu_r85_31 ?_
                        refine pu_iload_n rfl ?_
                        refine pu_ial pu_c105 pu_ln105 H.1 ?_
                        replace H := H.2
                        refine pu_iload rfl ?_
                        refine pu_isub ?_
                        refine pu_le_ pu_t159_164 (fun h30 => ?_) (fun h30 => ?_)
                        · replace H := pu_f h30 H
                          refine pu_iconst ?_
                          refine pu_istore (L' := [.ref 85, .int x1, .int x2, .int x3, .int x4, .int x5, .int 0]) (Or.inr rfl) rfl ?_
                          exact H 
                        · replace H := pu_t h30 H
                          refine pu_aload_n rfl ?_
                          refine pu_bipush ?_
                          refine pu_cv (vs := [.int (-5)]) (rest := []) pu_g149 ⟨pu_c85, by decide⟩ rfl rfl rfl rfl rfl (pu_CI (pu_I_imp H (fun y31 D32 H => ?_)))
                          exact pu_iretI pu_rt159 H
                · replace H := pu_t h20 H
                  refine pu_aload_n rfl ?_
                  refine pu_bipush ?_
                  refine pu_cv (vs := [.int (-4)]) (rest := []) pu_g149 ⟨pu_c85, by decide⟩ rfl rfl rfl rfl rfl (pu_CI (pu_I_imp H (fun y33 D34 H => ?_)))
                  exact pu_iretI pu_rt159 H
              · replace H := pu_t h19 H
                refine pu_aload_n rfl ?_
                refine pu_bipush ?_
                refine pu_cv (vs := [.int (-3)]) (rest := []) pu_g149 ⟨pu_c85, by decide⟩ rfl rfl rfl rfl rfl (pu_CI (pu_I_imp H (fun y35 D36 H => ?_)))
                exact pu_iretI pu_rt159 H
          · replace H := pu_t h15 H
            refine pu_aload_n rfl ?_
            refine pu_getR pu_kr8_29 pu_c85 pu_r85_29 ?_
            refine pu_iload_n rfl ?_
            refine pu_ial pu_c103 pu_ln103 H.1 ?_
            replace H := H.2
            refine pu_iconst ?_
            refine pu_ne_ pu_t159_84 (fun h37 => ?_) (fun h37 => ?_)
            · replace H := pu_f h37 H
              refine pu_aload_n rfl ?_
              refine pu_getR pu_kr8_29 pu_c85 pu_r85_29 ?_
              refine pu_iload_n rfl ?_
              refine pu_ial pu_c103 pu_ln103 H.1 ?_
              replace H := H.2
              refine pu_eq0 pu_t159_102 (fun h38 => ?_) (fun h38 => ?_)
              · replace H := pu_t h38 H
                refine pu_aload_n rfl ?_
                refine pu_bipush ?_
                refine pu_cv (vs := [.int (-3)]) (rest := []) pu_g149 ⟨pu_c85, by decide⟩ rfl rfl rfl rfl rfl (pu_CI (pu_I_imp H (fun y39 D40 H => ?_)))
                exact pu_iretI pu_rt159 H
              · replace H := pu_f h38 H
                refine pu_aload_n rfl ?_
                refine pu_getR pu_kr8_29 pu_c85 pu_r85_29 ?_
                refine pu_iload_n rfl ?_
                refine pu_ial pu_c103 pu_ln103 H.1 ?_
                replace H := H.2
                refine pu_ne0 pu_t159_109 (fun h41 => ?_) (fun h41 => ?_)
                · replace H := pu_f h41 H
                  refine pu_iload rfl ?_
                  refine pu_ge0 pu_t159_121 (fun h42 => ?_) (fun h42 => ?_)
                  · replace H := pu_f h42 H
                    refine pu_iload_n rfl ?_
                    refine pu_lt0 pu_t159_157 (fun h43 => ?_) (fun h43 => ?_)
                    · replace H := pu_t h43 H
                      refine pu_aload_n rfl ?_
                      refine pu_bipush ?_
                      refine pu_cv (vs := [.int (-5)]) (rest := []) pu_g149 ⟨pu_c85, by decide⟩ rfl rfl rfl rfl rfl (pu_CI (pu_I_imp H (fun y44 D45 H => ?_)))
                      exact pu_iretI pu_rt159 H
                    · replace H := pu_f h43 H
                      refine pu_iload rfl ?_
                      refine pu_lt0 pu_t159_157 (fun h46 => ?_) (fun h46 => ?_)
                      · replace H := pu_t h46 H
                        refine pu_aload_n rfl ?_
                        refine pu_bipush ?_
                        refine pu_cv (vs := [.int (-5)]) (rest := []) pu_g149 ⟨pu_c85, by decide⟩ rfl rfl rfl rfl rfl (pu_CI (pu_I_imp H (fun y47 D48 H => ?_)))
                        exact pu_iretI pu_rt159 H
                      · replace H := pu_f h46 H
                        refine pu_iload_n rfl ?_
                        refine pu_aload_n rfl ?_
                        refine pu_getR pu_kr8_31 pu_c85 pu_r85_31 ?_
                        refine pu_iload_n rfl ?_
                        refine pu_ial pu_c105 pu_ln105 H.1 ?_
                        replace H := H.2
                        refine pu_iload rfl ?_
                        refine pu_isub ?_
                        refine pu_gt_ pu_t159_157 (fun h49 => ?_) (fun h49 => ?_)
                        · replace H := pu_t h49 H
                          refine pu_aload_n rfl ?_
                          refine pu_bipush ?_
                          refine pu_cv (vs := [.int (-5)]) (rest := []) pu_g149 ⟨pu_c85, by decide⟩ rfl rfl rfl rfl rfl (pu_CI (pu_I_imp H (fun y50 D51 H => ?_)))
                          exact pu_iretI pu_rt159 H
                        · replace H := pu_f h49 H
                          refine pu_iload rfl ?_
                          refine pu_aload_n rfl ?_
                          refine pu_getR pu_kr8_31 pu_c85 pu_r85_31 ?_
                          refine pu_iload_n rfl ?_
                          refine pu_ial pu_c105 pu_ln105 H.1 ?_
                          replace H := H.2
                          refine pu_iload rfl ?_
                          refine pu_isub ?_
                          refine pu_le_ pu_t159_164 (fun h52 => ?_) (fun h52 => ?_)
                          · replace H := pu_f h52 H
                            refine pu_iconst ?_
                            refine pu_istore (L' := [.ref 85, .int x1, .int x2, .int x3, .int x4, .int x5, .int 0]) (Or.inr rfl) rfl ?_
                            exact H 
                          · replace H := pu_t h52 H
                            refine pu_aload_n rfl ?_
                            refine pu_bipush ?_
                            refine pu_cv (vs := [.int (-5)]) (rest := []) pu_g149 ⟨pu_c85, by decide⟩ rfl rfl rfl rfl rfl (pu_CI (pu_I_imp H (fun y53 D54 H => ?_)))
                            exact pu_iretI pu_rt159 H
                  · replace H := pu_t h42 H
                    refine pu_aload_n rfl ?_
                    refine pu_bipush ?_
                    refine pu_cv (vs := [.int (-4)]) (rest := []) pu_g149 ⟨pu_c85, by decide⟩ rfl rfl rfl rfl rfl (pu_CI (pu_I_imp H (fun y55 D56 H => ?_)))
                    exact pu_iretI pu_rt159 H
                · replace H := pu_t h41 H
                  refine pu_aload_n rfl ?_
                  refine pu_bipush ?_
                  refine pu_cv (vs := [.int (-3)]) (rest := []) pu_g149 ⟨pu_c85, by decide⟩ rfl rfl rfl rfl rfl (pu_CI (pu_I_imp H (fun y57 D58 H => ?_)))
                  exact pu_iretI pu_rt159 H
            · replace H := pu_t h37 H
              refine pu_aload_n rfl ?_
              refine pu_getR pu_kr8_30 pu_c85 pu_r85_30 ?_
              refine pu_iload_n rfl ?_
              refine pu_ial pu_c104 pu_ln104 H.1 ?_
              replace H := H.2
              refine pu_aload_n rfl ?_
              refine pu_getR pu_kr8_30 pu_c85 pu_r85_30 ?_
              refine pu_iload_n rfl ?_
              refine pu_ial pu_c104 pu_ln104 H.1 ?_
              replace H := H.2
              refine pu_eq_ pu_t159_84 (fun h59 => ?_) (fun h59 => ?_)
              · replace H := pu_t h59 H
                refine pu_aload_n rfl ?_
                refine pu_getR pu_kr8_29 pu_c85 pu_r85_29 ?_
                refine pu_iload_n rfl ?_
                refine pu_ial pu_c103 pu_ln103 H.1 ?_
                replace H := H.2
                refine pu_eq0 pu_t159_102 (fun h60 => ?_) (fun h60 => ?_)
                · replace H := pu_t h60 H
                  refine pu_aload_n rfl ?_
                  refine pu_bipush ?_
                  refine pu_cv (vs := [.int (-3)]) (rest := []) pu_g149 ⟨pu_c85, by decide⟩ rfl rfl rfl rfl rfl (pu_CI (pu_I_imp H (fun y61 D62 H => ?_)))
                  exact pu_iretI pu_rt159 H
                · replace H := pu_f h60 H
                  refine pu_aload_n rfl ?_
                  refine pu_getR pu_kr8_29 pu_c85 pu_r85_29 ?_
                  refine pu_iload_n rfl ?_
                  refine pu_ial pu_c103 pu_ln103 H.1 ?_
                  replace H := H.2
                  refine pu_ne0 pu_t159_109 (fun h63 => ?_) (fun h63 => ?_)
                  · replace H := pu_f h63 H
                    refine pu_iload rfl ?_
                    refine pu_ge0 pu_t159_121 (fun h64 => ?_) (fun h64 => ?_)
                    · replace H := pu_f h64 H
                      refine pu_iload_n rfl ?_
                      refine pu_lt0 pu_t159_157 (fun h65 => ?_) (fun h65 => ?_)
                      · replace H := pu_t h65 H
                        refine pu_aload_n rfl ?_
                        refine pu_bipush ?_
                        refine pu_cv (vs := [.int (-5)]) (rest := []) pu_g149 ⟨pu_c85, by decide⟩ rfl rfl rfl rfl rfl (pu_CI (pu_I_imp H (fun y66 D67 H => ?_)))
                        exact pu_iretI pu_rt159 H
                      · replace H := pu_f h65 H
                        refine pu_iload rfl ?_
                        refine pu_lt0 pu_t159_157 (fun h68 => ?_) (fun h68 => ?_)
                        · replace H := pu_t h68 H
                          refine pu_aload_n rfl ?_
                          refine pu_bipush ?_
                          refine pu_cv (vs := [.int (-5)]) (rest := []) pu_g149 ⟨pu_c85, by decide⟩ rfl rfl rfl rfl rfl (pu_CI (pu_I_imp H (fun y69 D70 H => ?_)))
                          exact pu_iretI pu_rt159 H
                        · replace H := pu_f h68 H
                          refine pu_iload_n rfl ?_
                          refine pu_aload_n rfl ?_
                          refine pu_getR pu_kr8_31 pu_c85 pu_r85_31 ?_
                          refine pu_iload_n rfl ?_
                          refine pu_ial pu_c105 pu_ln105 H.1 ?_
                          replace H := H.2
                          refine pu_iload rfl ?_
                          refine pu_isub ?_
                          refine pu_gt_ pu_t159_157 (fun h71 => ?_) (fun h71 => ?_)
                          · replace H := pu_t h71 H
                            refine pu_aload_n rfl ?_
                            refine pu_bipush ?_
                            refine pu_cv (vs := [.int (-5)]) (rest := []) pu_g149 ⟨pu_c85, by decide⟩ rfl rfl rfl rfl rfl (pu_CI (pu_I_imp H (fun y72 D73 H => ?_)))
                            exact pu_iretI pu_rt159 H
                          · replace H := pu_f h71 H
                            refine pu_iload rfl ?_
                            refine pu_aload_n rfl ?_
                            refine pu_getR pu_kr8_31 pu_c85 pu_r85_31 ?_
                            refine pu_iload_n rfl ?_
                            refine pu_ial pu_c105 pu_ln105 H.1 ?_
                            replace H := H.2
                            refine pu_iload rfl ?_
                            refine pu_isub ?_
                            refine pu_le_ pu_t159_164 (fun h74 => ?_) (fun h74 => ?_)
                            · replace H := pu_f h74 H
                              refine pu_iconst ?_
                              refine pu_istore (L' := [.ref 85, .int x1, .int x2, .int x3, .int x4, .int x5, .int 0]) (Or.inr rfl) rfl ?_
                              exact H 
                            · replace H := pu_t h74 H
                              refine pu_aload_n rfl ?_
                              refine pu_bipush ?_
                              refine pu_cv (vs := [.int (-5)]) (rest := []) pu_g149 ⟨pu_c85, by decide⟩ rfl rfl rfl rfl rfl (pu_CI (pu_I_imp H (fun y75 D76 H => ?_)))
                              exact pu_iretI pu_rt159 H
                    · replace H := pu_t h64 H
                      refine pu_aload_n rfl ?_
                      refine pu_bipush ?_
                      refine pu_cv (vs := [.int (-4)]) (rest := []) pu_g149 ⟨pu_c85, by decide⟩ rfl rfl rfl rfl rfl (pu_CI (pu_I_imp H (fun y77 D78 H => ?_)))
                      exact pu_iretI pu_rt159 H
                  · replace H := pu_t h63 H
                    refine pu_aload_n rfl ?_
                    refine pu_bipush ?_
                    refine pu_cv (vs := [.int (-3)]) (rest := []) pu_g149 ⟨pu_c85, by decide⟩ rfl rfl rfl rfl rfl (pu_CI (pu_I_imp H (fun y79 D80 H => ?_)))
                    exact pu_iretI pu_rt159 H
              · replace H := pu_f h59 H
                refine pu_aload_n rfl ?_
                refine pu_bipush ?_
                refine pu_cv (vs := [.int (-2)]) (rest := []) pu_g149 ⟨pu_c85, by decide⟩ rfl rfl rfl rfl rfl (pu_CI (pu_I_imp H (fun y81 D82 H => ?_)))
                exact pu_iretI pu_rt159 H
    · replace H := pu_t h8 H
      refine pu_aload_n rfl ?_
      refine pu_iconst ?_
      refine pu_cv (vs := [.int (-1)]) (rest := []) pu_g149 ⟨pu_c85, by decide⟩ rfl rfl rfl rfl rfl (pu_CI (pu_I_imp H (fun y83 D84 H => ?_)))
      exact pu_iretI pu_rt159 H
/-- LightAlongModel.element(II)J -/
theorem pu_e160 {X : px_X} {x1 : Int32} {x2 : Int32} {D : pu_D} {P : Int64 → pu_D → Prop} 
    (H : pu_I X 151 [.ref 85, .int x1] D (fun y1 D2 => if y1 = 0 then (P (Int64.ofNat 0) D2) else ((px_in x1 8 = true) ∧ if (D2.1 103 x1.toNatClampNeg) = 1 then (if x2 < 0 then (P (Int64.ofNat 0) D2) else ((px_in x1 8 = true) ∧ if x2 < (D2.1 105 x1.toNatClampNeg) then ((px_in ((120 * x1) + x2) 960 = true) ∧ P (D2.2 108 ((120 * x1) + x2).toNatClampNeg) D2) else (P (Int64.ofNat 0) D2))) else (P (Int64.ofNat 0) D2)))) :
    pu_J X 160 [.ref 85, .int x1, .int x2] D P := by
  refine pu_ent (E := [.ref 85, .int x1, .int x2]) pu_n160.1 pu_n160.2 pu_t160_0 rfl ?_
  refine pu_aload_n rfl ?_
  refine pu_iload_n rfl ?_
  refine pu_cv (vs := [.int x1]) (rest := []) pu_g151 ⟨pu_c85, by decide⟩ rfl rfl rfl rfl rfl (pu_CI (pu_I_imp H (fun y1 D2 H => ?_)))
  refine pu_eq0 pu_t160_46 (fun h3 => ?_) (fun h3 => ?_)
  · replace H := pu_t h3 H
    refine pu_lconst ?_
    exact pu_lret pu_rt160 H
  · replace H := pu_f h3 H
    refine pu_aload_n rfl ?_
    refine pu_getR pu_kr8_29 pu_c85 pu_r85_29 ?_
    refine pu_iload_n rfl ?_
    refine pu_ial pu_c103 pu_ln103 H.1 ?_
    replace H := H.2
    refine pu_iconst ?_
    refine pu_ne_ pu_t160_46 (fun h4 => ?_) (fun h4 => ?_)
    · replace H := pu_f h4 H
      refine pu_lconst ?_
      exact pu_lret pu_rt160 H
    · replace H := pu_t h4 H
      refine pu_iload_n rfl ?_
      refine pu_lt0 pu_t160_46 (fun h5 => ?_) (fun h5 => ?_)
      · replace H := pu_t h5 H
        refine pu_lconst ?_
        exact pu_lret pu_rt160 H
      · replace H := pu_f h5 H
        refine pu_iload_n rfl ?_
        refine pu_aload_n rfl ?_
        refine pu_getR pu_kr8_31 pu_c85 pu_r85_31 ?_
        refine pu_iload_n rfl ?_
        refine pu_ial pu_c105 pu_ln105 H.1 ?_
        replace H := H.2
        refine pu_ge_ pu_t160_46 (fun h6 => ?_) (fun h6 => ?_)
        · replace H := pu_f h6 H
          refine pu_lconst ?_
          exact pu_lret pu_rt160 H
        · replace H := pu_t h6 H
          refine pu_aload_n rfl ?_
          refine pu_getR pu_kr8_34 pu_c85 pu_r85_34 ?_
          refine pu_bipush ?_
          refine pu_iload_n rfl ?_
          refine pu_imul ?_
          refine pu_iload_n rfl ?_
          refine pu_iadd ?_
          refine pu_lal pu_c108 pu_ln108 H.1 ?_
          replace H := H.2
          refine pu_goto pu_t160_47 ?_
          exact pu_lret pu_rt160 H
/-- LightAlongModel.laying(III)I -/
def pu_h161_19 (X : px_X)  (D : pu_D) (P : Int32 → pu_D → Prop) : Prop := ∀ z1 : Value, z1.category = 1 → ∀ z2 : Value, z2.category = 1 → ∀ z3 : Value, z3.category = 1 → ∀ z4 : Value, z4.category = 1 → pu_W X 161 (0, 0) px_c161_19 [.ref 85, z1, z2, z3, z4] [] D (pu_qi P)
def pu_h161_49 (X : px_X) (x1 : Int32) (x2 : Int32) (x3 : Int32) (D : pu_D) (P : Int32 → pu_D → Prop) : Prop := ∀ z4 : Value, z4.category = 1 → pu_W X 161 (0, 0) px_c161_49 [.ref 85, .int x1, .int x2, .int x3, z4] [] D (pu_qi P)
def pu_h161_58 (X : px_X) (x1 : Int32) (x2 : Int32) (x3 : Int32) (D : pu_D) (P : Int32 → pu_D → Prop) : Prop := ∀ z4 : Value, z4.category = 1 → pu_W X 161 (0, 0) px_c161_58 [.ref 85, .int x1, .int x2, .int x3, z4] [] D (pu_qi P)
def pu_h161_88 (X : px_X) (x1 : Int32) (x2 : Int32) (x3 : Int32) (D : pu_D) (P : Int32 → pu_D → Prop) : Prop := ∀ z4 : Value, z4.category = 1 → pu_W X 161 (0, 0) px_c161_88 [.ref 85, .int x1, .int x2, .int x3, z4] [] D (pu_qi P)
def pu_h161_71 (X : px_X) (x1 : Int32) (x2 : Int32) (x3 : Int32) (D : pu_D) (P : Int32 → pu_D → Prop) : Prop := ∀ z4 : Value, z4.category = 1 → pu_W X 161 (0, 0) px_c161_71 [.ref 85, .int x1, .int x2, .int x3, z4] [] D (pu_qi P)
def pu_h161_92 (X : px_X) (x1 : Int32) (x2 : Int32) (x3 : Int32) (D : pu_D) (P : Int32 → pu_D → Prop) : Prop := ∀ z4 : Value, z4.category = 1 → pu_W X 161 (0, 0) px_c161_92 [.ref 85, .int x1, .int x2, .int x3, z4] [] D (pu_qi P)
theorem pu_u161_19 {X : px_X}  {D : pu_D} {P : Int32 → pu_D → Prop} 
    (H : pu_I X 149 [.ref 85, .int (-1)] D (fun y9 D10 => P y9 D10)) :
    pu_h161_19 X  D P := by
  intro z1 hz1 z2 hz2 z3 hz3 z4 hz4
  refine pu_aload_n rfl ?_
  refine pu_iconst ?_
  refine pu_cv (vs := [.int (-1)]) (rest := []) pu_g149 ⟨pu_c85, by decide⟩ rfl rfl rfl rfl rfl (pu_CI (pu_I_imp H (fun y9 D10 H => ?_)))
  exact pu_iretI pu_rt161 H
theorem pu_u161_49 {X : px_X} {x1 : Int32} {x2 : Int32} {x3 : Int32} {D : pu_D} {P : Int32 → pu_D → Prop} 
    (H : if x3 < 0 then (pu_h161_88 X x1 x2 x3 D P) else (if 1 < x3 then (pu_h161_88 X x1 x2 x3 D P) else (pu_h161_58 X x1 x2 x3 D P))) :
    pu_h161_49 X x1 x2 x3 D P := by
  intro z4 hz4
  refine pu_iload_n rfl ?_
  refine pu_lt0 pu_t161_88 (fun h11 => ?_) (fun h11 => ?_)
  · replace H := pu_t h11 H
    exact H _ hz4
  · replace H := pu_f h11 H
    refine pu_iload_n rfl ?_
    refine pu_iconst ?_
    refine pu_gt_ pu_t161_88 (fun h12 => ?_) (fun h12 => ?_)
    · replace H := pu_t h12 H
      exact H _ hz4
    · replace H := pu_f h12 H
      exact H _ hz4
theorem pu_u161_58 {X : px_X} {x1 : Int32} {x2 : Int32} {x3 : Int32} {D : pu_D} {P : Int32 → pu_D → Prop} 
    (H : if x2 = 4 then (pu_I X 156 [.ref 85, .int x3] D (fun y14 D15 => if y14 = 0 then (pu_h161_88 X x1 x2 x3 D15 P) else (pu_h161_71 X x1 x2 x3 D15 P))) else (pu_h161_71 X x1 x2 x3 D P)) :
    pu_h161_58 X x1 x2 x3 D P := by
  intro z4 hz4
  refine pu_iload_n rfl ?_
  refine pu_iconst ?_
  refine pu_ne_ pu_t161_71 (fun h13 => ?_) (fun h13 => ?_)
  · replace H := pu_f h13 H
    exact H _ hz4
  · replace H := pu_t h13 H
    refine pu_aload_n rfl ?_
    refine pu_iload_n rfl ?_
    refine pu_cv (vs := [.int x3]) (rest := []) pu_g156 ⟨pu_c85, by decide⟩ rfl rfl rfl rfl rfl (pu_CI (pu_I_imp H (fun y14 D15 H => ?_)))
    refine pu_eq0 pu_t161_88 (fun h16 => ?_) (fun h16 => ?_)
    · replace H := pu_t h16 H
      exact H _ hz4
    · replace H := pu_f h16 H
      exact H _ hz4
theorem pu_u161_88 {X : px_X} {x1 : Int32} {x2 : Int32} {x3 : Int32} {D : pu_D} {P : Int32 → pu_D → Prop} 
    (H : pu_I X 149 [.ref 85, .int (-6)] D (fun y17 D18 => P y17 D18)) :
    pu_h161_88 X x1 x2 x3 D P := by
  intro z4 hz4
  refine pu_iconst ?_
  refine pu_goto pu_t161_93 ?_
  refine pu_istore (L' := [.ref 85, .int x1, .int x2, .int x3, .int 1]) (Or.inr rfl) rfl ?_
  refine pu_iload rfl ?_
  refine pu_ifF (by decide) ?_
  refine pu_aload_n rfl ?_
  refine pu_bipush ?_
  refine pu_cv (vs := [.int (-6)]) (rest := []) pu_g149 ⟨pu_c85, by decide⟩ rfl rfl rfl rfl rfl (pu_CI (pu_I_imp H (fun y17 D18 H => ?_)))
  exact pu_iretI pu_rt161 H
theorem pu_u161_71 {X : px_X} {x1 : Int32} {x2 : Int32} {x3 : Int32} {D : pu_D} {P : Int32 → pu_D → Prop} 
    (H : if x2 = 6 then (if x3 < 0 then (pu_h161_88 X x1 x2 x3 D P) else (if 511 < x3 then (pu_h161_88 X x1 x2 x3 D P) else (pu_h161_92 X x1 x2 x3 D P))) else (pu_h161_92 X x1 x2 x3 D P)) :
    pu_h161_71 X x1 x2 x3 D P := by
  intro z4 hz4
  refine pu_iload_n rfl ?_
  refine pu_bipush ?_
  refine pu_ne_ pu_t161_92 (fun h19 => ?_) (fun h19 => ?_)
  · replace H := pu_f h19 H
    exact H _ hz4
  · replace H := pu_t h19 H
    refine pu_iload_n rfl ?_
    refine pu_lt0 pu_t161_88 (fun h20 => ?_) (fun h20 => ?_)
    · replace H := pu_t h20 H
      exact H _ hz4
    · replace H := pu_f h20 H
      refine pu_iload_n rfl ?_
      refine pu_sipush ?_
      refine pu_le_ pu_t161_92 (fun h21 => ?_) (fun h21 => ?_)
      · replace H := pu_f h21 H
        exact H _ hz4
      · replace H := pu_t h21 H
        exact H _ hz4
theorem pu_u161_92 {X : px_X} {x1 : Int32} {x2 : Int32} {x3 : Int32} {D : pu_D} {P : Int32 → pu_D → Prop} 
    (H : (px_in x1 8 = true) ∧ (px_in x1 8 = true) ∧ if x2 = 1 then ((px_in x1 8 = true) ∧ if x2 = 5 then (pu_I X 198 [.ref 85] (pu_wi (pu_wi (pu_wi D 103 x1.toNatClampNeg 2) 106 x1.toNatClampNeg x2) 107 x1.toNatClampNeg x3) (fun y24 D25 => (px_in x1 8 = true) ∧ P 1 (pu_wi D25 105 x1.toNatClampNeg y24))) else ((px_in x1 8 = true) ∧ P 1 (pu_wi (pu_wi (pu_wi (pu_wi D 103 x1.toNatClampNeg 2) 106 x1.toNatClampNeg x2) 107 x1.toNatClampNeg x3) 105 x1.toNatClampNeg 0))) else (if x2 = 3 then ((px_in x1 8 = true) ∧ if x2 = 5 then (pu_I X 198 [.ref 85] (pu_wi (pu_wi (pu_wi D 103 x1.toNatClampNeg 2) 106 x1.toNatClampNeg x2) 107 x1.toNatClampNeg x3) (fun y28 D29 => (px_in x1 8 = true) ∧ P 1 (pu_wi D29 105 x1.toNatClampNeg y28))) else ((px_in x1 8 = true) ∧ P 1 (pu_wi (pu_wi (pu_wi (pu_wi D 103 x1.toNatClampNeg 2) 106 x1.toNatClampNeg x2) 107 x1.toNatClampNeg x3) 105 x1.toNatClampNeg 0))) else (if x2 = 4 then ((px_in x1 8 = true) ∧ if x2 = 5 then (pu_I X 198 [.ref 85] (pu_wi (pu_wi (pu_wi D 103 x1.toNatClampNeg 2) 106 x1.toNatClampNeg x2) 107 x1.toNatClampNeg x3) (fun y32 D33 => (px_in x1 8 = true) ∧ P 1 (pu_wi D33 105 x1.toNatClampNeg y32))) else ((px_in x1 8 = true) ∧ P 1 (pu_wi (pu_wi (pu_wi (pu_wi D 103 x1.toNatClampNeg 2) 106 x1.toNatClampNeg x2) 107 x1.toNatClampNeg x3) 105 x1.toNatClampNeg 0))) else (if x2 = 6 then ((px_in x1 8 = true) ∧ if x2 = 5 then (pu_I X 198 [.ref 85] (pu_wi (pu_wi (pu_wi D 103 x1.toNatClampNeg 2) 106 x1.toNatClampNeg x2) 107 x1.toNatClampNeg x3) (fun y39 D40 => (px_in x1 8 = true) ∧ P 1 (pu_wi D40 105 x1.toNatClampNeg y39))) else ((px_in x1 8 = true) ∧ P 1 (pu_wi (pu_wi (pu_wi (pu_wi D 103 x1.toNatClampNeg 2) 106 x1.toNatClampNeg x2) 107 x1.toNatClampNeg x3) 105 x1.toNatClampNeg 0))) else ((px_in x1 8 = true) ∧ if x2 = 5 then (pu_I X 198 [.ref 85] (pu_wi (pu_wi (pu_wi D 103 x1.toNatClampNeg 2) 106 x1.toNatClampNeg x2) 107 x1.toNatClampNeg 0) (fun y36 D37 => (px_in x1 8 = true) ∧ P 1 (pu_wi D37 105 x1.toNatClampNeg y36))) else ((px_in x1 8 = true) ∧ P 1 (pu_wi (pu_wi (pu_wi (pu_wi D 103 x1.toNatClampNeg 2) 106 x1.toNatClampNeg x2) 107 x1.toNatClampNeg 0) 105 x1.toNatClampNeg 0))))))) :
    pu_h161_92 X x1 x2 x3 D P := by
  intro z4 hz4
  refine pu_iconst ?_
  refine pu_istore (L' := [.ref 85, .int x1, .int x2, .int x3, .int 0]) (Or.inr rfl) rfl ?_
  refine pu_iload rfl ?_
  refine pu_ifT (by decide) pu_t161_107 ?_
  refine pu_aload_n rfl ?_
  refine pu_getR pu_kr8_29 pu_c85 pu_r85_29 ?_
  refine pu_iload_n rfl ?_
  refine pu_iconst ?_
  refine pu_ias pu_c103 pu_ln103 H.1 ?_
  replace H := H.2
  refine pu_aload_n rfl ?_
  refine pu_getR pu_kr8_32 pu_c85 pu_r85_32 ?_
  refine pu_iload_n rfl ?_
  refine pu_iload_n rfl ?_
  refine pu_ias pu_c106 pu_ln106 H.1 ?_
  replace H := H.2
  refine pu_aload_n rfl ?_
  refine pu_getR pu_kr8_33 pu_c85 pu_r85_33 ?_
  refine pu_iload_n rfl ?_
  refine pu_iload_n rfl ?_
  refine pu_iconst ?_
  refine pu_eq_ pu_t161_147 (fun h22 => ?_) (fun h22 => ?_)
  · replace H := pu_t h22 H
    refine pu_iload_n rfl ?_
    refine pu_goto pu_t161_152 ?_
    refine pu_ias pu_c107 pu_ln107 H.1 ?_
    replace H := H.2
    refine pu_aload_n rfl ?_
    refine pu_getR pu_kr8_31 pu_c85 pu_r85_31 ?_
    refine pu_iload_n rfl ?_
    refine pu_iload_n rfl ?_
    refine pu_iconst ?_
    refine pu_ne_ pu_t161_170 (fun h23 => ?_) (fun h23 => ?_)
    · replace H := pu_f h23 H
      refine pu_iconst ?_
      refine pu_ias pu_c105 pu_ln105 H.1 ?_
      replace H := H.2
      refine pu_iconst ?_
      exact pu_iretI pu_rt161 H
    · replace H := pu_t h23 H
      refine pu_aload_n rfl ?_
      refine pu_cv (vs := []) (rest := [.int x1, .ref 105]) pu_g198 ⟨pu_c85, by decide⟩ rfl rfl rfl rfl rfl (pu_CI (pu_I_imp H (fun y24 D25 H => ?_)))
      refine pu_goto pu_t161_171 ?_
      refine pu_ias pu_c105 pu_ln105 H.1 ?_
      replace H := H.2
      refine pu_iconst ?_
      exact pu_iretI pu_rt161 H
  · replace H := pu_f h22 H
    refine pu_iload_n rfl ?_
    refine pu_iconst ?_
    refine pu_eq_ pu_t161_147 (fun h26 => ?_) (fun h26 => ?_)
    · replace H := pu_t h26 H
      refine pu_iload_n rfl ?_
      refine pu_goto pu_t161_152 ?_
      refine pu_ias pu_c107 pu_ln107 H.1 ?_
      replace H := H.2
      refine pu_aload_n rfl ?_
      refine pu_getR pu_kr8_31 pu_c85 pu_r85_31 ?_
      refine pu_iload_n rfl ?_
      refine pu_iload_n rfl ?_
      refine pu_iconst ?_
      refine pu_ne_ pu_t161_170 (fun h27 => ?_) (fun h27 => ?_)
      · replace H := pu_f h27 H
        refine pu_iconst ?_
        refine pu_ias pu_c105 pu_ln105 H.1 ?_
        replace H := H.2
        refine pu_iconst ?_
        exact pu_iretI pu_rt161 H
      · replace H := pu_t h27 H
        refine pu_aload_n rfl ?_
        refine pu_cv (vs := []) (rest := [.int x1, .ref 105]) pu_g198 ⟨pu_c85, by decide⟩ rfl rfl rfl rfl rfl (pu_CI (pu_I_imp H (fun y28 D29 H => ?_)))
        refine pu_goto pu_t161_171 ?_
        refine pu_ias pu_c105 pu_ln105 H.1 ?_
        replace H := H.2
        refine pu_iconst ?_
        exact pu_iretI pu_rt161 H
    · replace H := pu_f h26 H
      refine pu_iload_n rfl ?_
      refine pu_iconst ?_
      refine pu_eq_ pu_t161_147 (fun h30 => ?_) (fun h30 => ?_)
      · replace H := pu_t h30 H
        refine pu_iload_n rfl ?_
        refine pu_goto pu_t161_152 ?_
        refine pu_ias pu_c107 pu_ln107 H.1 ?_
        replace H := H.2
        refine pu_aload_n rfl ?_
        refine pu_getR pu_kr8_31 pu_c85 pu_r85_31 ?_
        refine pu_iload_n rfl ?_
        refine pu_iload_n rfl ?_
        refine pu_iconst ?_
        refine pu_ne_ pu_t161_170 (fun h31 => ?_) (fun h31 => ?_)
        · replace H := pu_f h31 H
          refine pu_iconst ?_
          refine pu_ias pu_c105 pu_ln105 H.1 ?_
          replace H := H.2
          refine pu_iconst ?_
          exact pu_iretI pu_rt161 H
        · replace H := pu_t h31 H
          refine pu_aload_n rfl ?_
          refine pu_cv (vs := []) (rest := [.int x1, .ref 105]) pu_g198 ⟨pu_c85, by decide⟩ rfl rfl rfl rfl rfl (pu_CI (pu_I_imp H (fun y32 D33 H => ?_)))
          refine pu_goto pu_t161_171 ?_
          refine pu_ias pu_c105 pu_ln105 H.1 ?_
          replace H := H.2
          refine pu_iconst ?_
          exact pu_iretI pu_rt161 H
      · replace H := pu_f h30 H
        refine pu_iload_n rfl ?_
        refine pu_bipush ?_
        refine pu_ne_ pu_t161_151 (fun h34 => ?_) (fun h34 => ?_)
        · replace H := pu_f h34 H
          refine pu_iconst ?_
          refine pu_ias pu_c107 pu_ln107 H.1 ?_
          replace H := H.2
          refine pu_aload_n rfl ?_
          refine pu_getR pu_kr8_31 pu_c85 pu_r85_31 ?_
          refine pu_iload_n rfl ?_
          refine pu_iload_n rfl ?_
          refine pu_iconst ?_
          refine pu_ne_ pu_t161_170 (fun h35 => ?_) (fun h35 => ?_)
          · replace H := pu_f h35 H
            refine pu_iconst ?_
            refine pu_ias pu_c105 pu_ln105 H.1 ?_
            replace H := H.2
            refine pu_iconst ?_
            exact pu_iretI pu_rt161 H
          · replace H := pu_t h35 H
            refine pu_aload_n rfl ?_
            refine pu_cv (vs := []) (rest := [.int x1, .ref 105]) pu_g198 ⟨pu_c85, by decide⟩ rfl rfl rfl rfl rfl (pu_CI (pu_I_imp H (fun y36 D37 H => ?_)))
            refine pu_goto pu_t161_171 ?_
            refine pu_ias pu_c105 pu_ln105 H.1 ?_
            replace H := H.2
            refine pu_iconst ?_
            exact pu_iretI pu_rt161 H
        · replace H := pu_t h34 H
          refine pu_iload_n rfl ?_
          refine pu_goto pu_t161_152 ?_
          refine pu_ias pu_c107 pu_ln107 H.1 ?_
          replace H := H.2
          refine pu_aload_n rfl ?_
          refine pu_getR pu_kr8_31 pu_c85 pu_r85_31 ?_
          refine pu_iload_n rfl ?_
          refine pu_iload_n rfl ?_
          refine pu_iconst ?_
          refine pu_ne_ pu_t161_170 (fun h38 => ?_) (fun h38 => ?_)
          · replace H := pu_f h38 H
            refine pu_iconst ?_
            refine pu_ias pu_c105 pu_ln105 H.1 ?_
            replace H := H.2
            refine pu_iconst ?_
            exact pu_iretI pu_rt161 H
          · replace H := pu_t h38 H
            refine pu_aload_n rfl ?_
            refine pu_cv (vs := []) (rest := [.int x1, .ref 105]) pu_g198 ⟨pu_c85, by decide⟩ rfl rfl rfl rfl rfl (pu_CI (pu_I_imp H (fun y39 D40 H => ?_)))
            refine pu_goto pu_t161_171 ?_
            refine pu_ias pu_c105 pu_ln105 H.1 ?_
            replace H := H.2
            refine pu_iconst ?_
            exact pu_iretI pu_rt161 H
theorem pu_e161 {X : px_X} {x1 : Int32} {x2 : Int32} {x3 : Int32} {D : pu_D} {P : Int32 → pu_D → Prop} 
    (H : pu_I X 151 [.ref 85, .int x1] D (fun y1 D2 => if y1 = 0 then (pu_h161_19 X D2 P) else (if x2 < (-1) then (pu_h161_19 X D2 P) else (if 6 < x2 then (pu_h161_19 X D2 P) else (if x2 = (-1) then ((px_in x1 8 = true) ∧ P 0 (pu_wi D2 103 x1.toNatClampNeg 0)) else (if x2 = 1 then (pu_h161_49 X x1 x2 x3 D2 P) else (if x2 = 3 then (pu_h161_49 X x1 x2 x3 D2 P) else (pu_h161_58 X x1 x2 x3 D2 P)))))))) :
    pu_I X 161 [.ref 85, .int x1, .int x2, .int x3] D P := by
  refine pu_ent (E := [.ref 85, .int x1, .int x2, .int x3, .null]) pu_n161.1 pu_n161.2 pu_t161_0 rfl ?_
  refine pu_aload_n rfl ?_
  refine pu_iload_n rfl ?_
  refine pu_cv (vs := [.int x1]) (rest := []) pu_g151 ⟨pu_c85, by decide⟩ rfl rfl rfl rfl rfl (pu_CI (pu_I_imp H (fun y1 D2 H => ?_)))
  refine pu_eq0 pu_t161_19 (fun h3 => ?_) (fun h3 => ?_)
  · replace H := pu_t h3 H
    exact H _ rfl _ rfl _ rfl _ rfl
  · replace H := pu_f h3 H
    refine pu_iload_n rfl ?_
    refine pu_iconst ?_
    refine pu_lt_ pu_t161_19 (fun h4 => ?_) (fun h4 => ?_)
    · replace H := pu_t h4 H
      exact H _ rfl _ rfl _ rfl _ rfl
    · replace H := pu_f h4 H
      refine pu_iload_n rfl ?_
      refine pu_bipush ?_
      refine pu_le_ pu_t161_25 (fun h5 => ?_) (fun h5 => ?_)
      · replace H := pu_f h5 H
        refine pu_iload_n rfl ?_
        refine pu_iconst ?_
        refine pu_ne_ pu_t161_39 (fun h6 => ?_) (fun h6 => ?_)
        · replace H := pu_f h6 H
          refine pu_iload_n rfl ?_
          refine pu_iconst ?_
          refine pu_eq_ pu_t161_49 (fun h7 => ?_) (fun h7 => ?_)
          · replace H := pu_t h7 H
            exact H _ rfl
          · replace H := pu_f h7 H
            refine pu_iload_n rfl ?_
            refine pu_iconst ?_
            refine pu_ne_ pu_t161_58 (fun h8 => ?_) (fun h8 => ?_)
            · replace H := pu_f h8 H
              exact H _ rfl
            · replace H := pu_t h8 H
              exact H _ rfl
        · replace H := pu_t h6 H
          refine pu_aload_n rfl ?_
          refine pu_getR pu_kr8_29 pu_c85 pu_r85_29 ?_
          refine pu_iload_n rfl ?_
          refine pu_iconst ?_
          refine pu_ias pu_c103 pu_ln103 H.1 ?_
          replace H := H.2
          refine pu_iconst ?_
          exact pu_iretI pu_rt161 H
      · replace H := pu_t h5 H
        exact H _ rfl _ rfl _ rfl _ rfl
/-- LightAlongModel.holds(I)I -/
theorem pu_e162 {X : px_X} {x1 : Int32} {D : pu_D} {P : Int32 → pu_D → Prop} 
    (H : pu_I X 151 [.ref 85, .int x1] D (fun y1 D2 => if y1 = 0 then (P (-1) D2) else ((px_in x1 8 = true) ∧ if (D2.1 103 x1.toNatClampNeg) = 0 then (P (-1) D2) else ((px_in x1 8 = true) ∧ if (D2.1 103 x1.toNatClampNeg) = 1 then ((px_in x1 8 = true) ∧ P (100 + (D2.1 104 x1.toNatClampNeg)) D2) else ((px_in x1 8 = true) ∧ P (D2.1 106 x1.toNatClampNeg) D2))))) :
    pu_I X 162 [.ref 85, .int x1] D P := by
  refine pu_ent (E := [.ref 85, .int x1]) pu_n162.1 pu_n162.2 pu_t162_0 rfl ?_
  refine pu_aload_n rfl ?_
  refine pu_iload_n rfl ?_
  refine pu_cv (vs := [.int x1]) (rest := []) pu_g151 ⟨pu_c85, by decide⟩ rfl rfl rfl rfl rfl (pu_CI (pu_I_imp H (fun y1 D2 H => ?_)))
  refine pu_eq0 pu_t162_17 (fun h3 => ?_) (fun h3 => ?_)
  · replace H := pu_t h3 H
    refine pu_iconst ?_
    exact pu_iretI pu_rt162 H
  · replace H := pu_f h3 H
    refine pu_aload_n rfl ?_
    refine pu_getR pu_kr8_29 pu_c85 pu_r85_29 ?_
    refine pu_iload_n rfl ?_
    refine pu_ial pu_c103 pu_ln103 H.1 ?_
    replace H := H.2
    refine pu_ne0 pu_t162_19 (fun h4 => ?_) (fun h4 => ?_)
    · replace H := pu_f h4 H
      refine pu_aload_n rfl ?_
      refine pu_getR pu_kr8_29 pu_c85 pu_r85_29 ?_
      refine pu_iload_n rfl ?_
      refine pu_ial pu_c103 pu_ln103 H.1 ?_
      replace H := H.2
      refine pu_iconst ?_
      refine pu_ne_ pu_t162_41 (fun h5 => ?_) (fun h5 => ?_)
      · replace H := pu_f h5 H
        refine pu_aload_n rfl ?_
        refine pu_getR pu_kr8_32 pu_c85 pu_r85_32 ?_
        refine pu_iload_n rfl ?_
        refine pu_ial pu_c106 pu_ln106 H.1 ?_
        replace H := H.2
        exact pu_iretI pu_rt162 H
      · replace H := pu_t h5 H
        refine pu_bipush ?_
        refine pu_aload_n rfl ?_
        refine pu_getR pu_kr8_30 pu_c85 pu_r85_30 ?_
        refine pu_iload_n rfl ?_
        refine pu_ial pu_c104 pu_ln104 H.1 ?_
        replace H := H.2
        refine pu_iadd ?_
        refine pu_goto pu_t162_47 ?_
        exact pu_iretI pu_rt162 H
    · replace H := pu_t h4 H
      refine pu_iconst ?_
      exact pu_iretI pu_rt162 H
/-- LightAlongModel.isUnder(II)Z -/
theorem pu_e163 {X : px_X} {x1 : Int32} {x2 : Int32} {D : pu_D} {P : Int32 → pu_D → Prop} 
    (H : if x2 = 0 then (P 1 D) else (if x2 = x1 then (P 1 D) else (if x2 = 2 then (if x1 = 3 then (P 1 D) else (if x1 = 5 then (P 1 D) else (P 0 D))) else (P 0 D)))) :
    pu_I X 163 [.ref 85, .int x1, .int x2] D P := by
  refine pu_ent (E := [.ref 85, .int x1, .int x2]) pu_n163.1 pu_n163.2 pu_t163_0 rfl ?_
  refine pu_iload_n rfl ?_
  refine pu_eq0 pu_t163_24 (fun h1 => ?_) (fun h1 => ?_)
  · replace H := pu_t h1 H
    refine pu_iconst ?_
    refine pu_goto pu_t163_29 ?_
    exact pu_iretZ pu_rt163 (by decide) H
  · replace H := pu_f h1 H
    refine pu_iload_n rfl ?_
    refine pu_iload_n rfl ?_
    refine pu_eq_ pu_t163_24 (fun h2 => ?_) (fun h2 => ?_)
    · replace H := pu_t h2 H
      refine pu_iconst ?_
      refine pu_goto pu_t163_29 ?_
      exact pu_iretZ pu_rt163 (by decide) H
    · replace H := pu_f h2 H
      refine pu_iload_n rfl ?_
      refine pu_iconst ?_
      refine pu_ne_ pu_t163_28 (fun h3 => ?_) (fun h3 => ?_)
      · replace H := pu_f h3 H
        refine pu_iconst ?_
        exact pu_iretZ pu_rt163 (by decide) H
      · replace H := pu_t h3 H
        refine pu_iload_n rfl ?_
        refine pu_iconst ?_
        refine pu_eq_ pu_t163_24 (fun h4 => ?_) (fun h4 => ?_)
        · replace H := pu_t h4 H
          refine pu_iconst ?_
          refine pu_goto pu_t163_29 ?_
          exact pu_iretZ pu_rt163 (by decide) H
        · replace H := pu_f h4 H
          refine pu_iload_n rfl ?_
          refine pu_iconst ?_
          refine pu_ne_ pu_t163_28 (fun h5 => ?_) (fun h5 => ?_)
          · replace H := pu_f h5 H
            refine pu_iconst ?_
            exact pu_iretZ pu_rt163 (by decide) H
          · replace H := pu_t h5 H
            refine pu_iconst ?_
            refine pu_goto pu_t163_29 ?_
            exact pu_iretZ pu_rt163 (by decide) H
/-- LightAlongModel.says(II)I -/
theorem pu_e164 {X : px_X} {x1 : Int32} {x2 : Int32} {D : pu_D} {P : Int32 → pu_D → Prop} 
    (H : pu_I X 151 [.ref 85, .int x1] D (fun y1 D2 => if y1 = 0 then (pu_I X 149 [.ref 85, .int (-1)] D2 (fun y4 D5 => P y4 D5)) else (if x2 < 0 then (pu_I X 149 [.ref 85, .int (-1)] D2 (fun y7 D8 => P y7 D8)) else (if 6 < x2 then (pu_I X 149 [.ref 85, .int (-1)] D2 (fun y28 D29 => P y28 D29)) else ((px_in x1 8 = true) ∧ if (D2.1 103 x1.toNatClampNeg) = 1 then (pu_I X 149 [.ref 85, .int (-2)] D2 (fun y26 D27 => P y26 D27)) else ((px_in x1 8 = true) ∧ if (D2.1 103 x1.toNatClampNeg) = 0 then (pu_I X 149 [.ref 85, .int (-3)] D2 (fun y24 D25 => P y24 D25)) else ((px_in x1 8 = true) ∧ pu_I X 163 [.ref 85, .int (D2.1 106 x1.toNatClampNeg), .int x2] D2 (fun y12 D13 => if y12 = 0 then (pu_I X 149 [.ref 85, .int (-2)] D13 (fun y22 D23 => P y22 D23)) else ((px_in x1 8 = true) ∧ (px_in x1 8 = true) ∧ (px_in x1 8 = true) ∧ pu_I X 202 [.ref 85, .int (D13.1 106 x1.toNatClampNeg), .int (D13.1 107 x1.toNatClampNeg), .int (D13.1 105 x1.toNatClampNeg)] D13 (fun y15 D16 => if x2 = 0 then (pu_I X 165 [.ref 85, .int y15] D16 (fun y20 D21 => P y20 D21)) else (if x2 = 2 then (P y15 D16) else (if x2 = 5 then ((px_in x1 8 = true) ∧ P (D16.1 105 x1.toNatClampNeg) D16) else ((px_in x1 8 = true) ∧ P (D16.1 107 x1.toNatClampNeg) D16))))))))))))) :
    pu_I X 164 [.ref 85, .int x1, .int x2] D P := by
  refine pu_ent (E := [.ref 85, .int x1, .int x2, .null]) pu_n164.1 pu_n164.2 pu_t164_0 rfl ?_
  refine pu_aload_n rfl ?_
  refine pu_iload_n rfl ?_
  refine pu_cv (vs := [.int x1]) (rest := []) pu_g151 ⟨pu_c85, by decide⟩ rfl rfl rfl rfl rfl (pu_CI (pu_I_imp H (fun y1 D2 H => ?_)))
  refine pu_eq0 pu_t164_18 (fun h3 => ?_) (fun h3 => ?_)
  · replace H := pu_t h3 H
    refine pu_aload_n rfl ?_
    refine pu_iconst ?_
    refine pu_cv (vs := [.int (-1)]) (rest := []) pu_g149 ⟨pu_c85, by decide⟩ rfl rfl rfl rfl rfl (pu_CI (pu_I_imp H (fun y4 D5 H => ?_)))
    exact pu_iretI pu_rt164 H
  · replace H := pu_f h3 H
    refine pu_iload_n rfl ?_
    refine pu_lt0 pu_t164_18 (fun h6 => ?_) (fun h6 => ?_)
    · replace H := pu_t h6 H
      refine pu_aload_n rfl ?_
      refine pu_iconst ?_
      refine pu_cv (vs := [.int (-1)]) (rest := []) pu_g149 ⟨pu_c85, by decide⟩ rfl rfl rfl rfl rfl (pu_CI (pu_I_imp H (fun y7 D8 H => ?_)))
      exact pu_iretI pu_rt164 H
    · replace H := pu_f h6 H
      refine pu_iload_n rfl ?_
      refine pu_bipush ?_
      refine pu_le_ pu_t164_24 (fun h9 => ?_) (fun h9 => ?_)
      · replace H := pu_f h9 H
        refine pu_aload_n rfl ?_
        refine pu_getR pu_kr8_29 pu_c85 pu_r85_29 ?_
        refine pu_iload_n rfl ?_
        refine pu_ial pu_c103 pu_ln103 H.1 ?_
        replace H := H.2
        refine pu_iconst ?_
        refine pu_ne_ pu_t164_41 (fun h10 => ?_) (fun h10 => ?_)
        · replace H := pu_f h10 H
          refine pu_aload_n rfl ?_
          refine pu_getR pu_kr8_29 pu_c85 pu_r85_29 ?_
          refine pu_iload_n rfl ?_
          refine pu_ial pu_c103 pu_ln103 H.1 ?_
          replace H := H.2
          refine pu_ne0 pu_t164_57 (fun h11 => ?_) (fun h11 => ?_)
          · replace H := pu_f h11 H
            refine pu_aload_n rfl ?_
            refine pu_aload_n rfl ?_
            refine pu_getR pu_kr8_32 pu_c85 pu_r85_32 ?_
            refine pu_iload_n rfl ?_
            refine pu_ial pu_c106 pu_ln106 H.1 ?_
            replace H := H.2
            refine pu_iload_n rfl ?_
            refine pu_cv (vs := [.int (D2.1 106 x1.toNatClampNeg), .int x2]) (rest := []) pu_g163 ⟨pu_c85, by decide⟩ rfl rfl rfl rfl rfl (pu_CI (pu_I_imp H (fun y12 D13 H => ?_)))
            refine pu_ne0 pu_t164_78 (fun h14 => ?_) (fun h14 => ?_)
            · replace H := pu_f h14 H
              refine pu_aload_n rfl ?_
              refine pu_aload_n rfl ?_
              refine pu_getR pu_kr8_32 pu_c85 pu_r85_32 ?_
              refine pu_iload_n rfl ?_
              refine pu_ial pu_c106 pu_ln106 H.1 ?_
              replace H := H.2
              refine pu_aload_n rfl ?_
              refine pu_getR pu_kr8_33 pu_c85 pu_r85_33 ?_
              refine pu_iload_n rfl ?_
              refine pu_ial pu_c107 pu_ln107 H.1 ?_
              replace H := H.2
              refine pu_aload_n rfl ?_
              refine pu_getR pu_kr8_31 pu_c85 pu_r85_31 ?_
              refine pu_iload_n rfl ?_
              refine pu_ial pu_c105 pu_ln105 H.1 ?_
              replace H := H.2
              refine pu_cv (vs := [.int (D13.1 106 x1.toNatClampNeg), .int (D13.1 107 x1.toNatClampNeg), .int (D13.1 105 x1.toNatClampNeg)]) (rest := []) pu_g202 ⟨pu_c85, by decide⟩ rfl rfl rfl rfl rfl (pu_CI (pu_I_imp H (fun y15 D16 H => ?_)))
              refine pu_istore_n (L' := [.ref 85, .int x1, .int x2, .int y15]) (Or.inr rfl) rfl ?_
              refine pu_iload_n rfl ?_
              refine pu_ne0 pu_t164_111 (fun h17 => ?_) (fun h17 => ?_)
              · replace H := pu_f h17 H
                refine pu_iload_n rfl ?_
                refine pu_iconst ?_
                refine pu_ne_ pu_t164_118 (fun h18 => ?_) (fun h18 => ?_)
                · replace H := pu_f h18 H
                  refine pu_iload_n rfl ?_
                  refine pu_iconst ?_
                  refine pu_ne_ pu_t164_132 (fun h19 => ?_) (fun h19 => ?_)
                  · replace H := pu_f h19 H
                    refine pu_aload_n rfl ?_
                    refine pu_getR pu_kr8_33 pu_c85 pu_r85_33 ?_
                    refine pu_iload_n rfl ?_
                    refine pu_ial pu_c107 pu_ln107 H.1 ?_
                    replace H := H.2
                    exact pu_iretI pu_rt164 H
                  · replace H := pu_t h19 H
                    refine pu_aload_n rfl ?_
                    refine pu_getR pu_kr8_31 pu_c85 pu_r85_31 ?_
                    refine pu_iload_n rfl ?_
                    refine pu_ial pu_c105 pu_ln105 H.1 ?_
                    replace H := H.2
                    refine pu_goto pu_t164_138 ?_
                    exact pu_iretI pu_rt164 H
                · replace H := pu_t h18 H
                  refine pu_iload_n rfl ?_
                  exact pu_iretI pu_rt164 H
              · replace H := pu_t h17 H
                refine pu_aload_n rfl ?_
                refine pu_iload_n rfl ?_
                refine pu_cv (vs := [.int y15]) (rest := []) pu_g165 ⟨pu_c85, by decide⟩ rfl rfl rfl rfl rfl (pu_CI (pu_I_imp H (fun y20 D21 H => ?_)))
                exact pu_iretI pu_rt164 H
            · replace H := pu_t h14 H
              refine pu_aload_n rfl ?_
              refine pu_bipush ?_
              refine pu_cv (vs := [.int (-2)]) (rest := []) pu_g149 ⟨pu_c85, by decide⟩ rfl rfl rfl rfl rfl (pu_CI (pu_I_imp H (fun y22 D23 H => ?_)))
              exact pu_iretI pu_rt164 H
          · replace H := pu_t h11 H
            refine pu_aload_n rfl ?_
            refine pu_bipush ?_
            refine pu_cv (vs := [.int (-3)]) (rest := []) pu_g149 ⟨pu_c85, by decide⟩ rfl rfl rfl rfl rfl (pu_CI (pu_I_imp H (fun y24 D25 H => ?_)))
            exact pu_iretI pu_rt164 H
        · replace H := pu_t h10 H
          refine pu_aload_n rfl ?_
          refine pu_bipush ?_
          refine pu_cv (vs := [.int (-2)]) (rest := []) pu_g149 ⟨pu_c85, by decide⟩ rfl rfl rfl rfl rfl (pu_CI (pu_I_imp H (fun y26 D27 H => ?_)))
          exact pu_iretI pu_rt164 H
      · replace H := pu_t h9 H
        refine pu_aload_n rfl ?_
        refine pu_iconst ?_
        refine pu_cv (vs := [.int (-1)]) (rest := []) pu_g149 ⟨pu_c85, by decide⟩ rfl rfl rfl rfl rfl (pu_CI (pu_I_imp H (fun y28 D29 H => ?_)))
        exact pu_iretI pu_rt164 H
/-- LightAlongModel.bits(I)I -/
def pu_h165_4 (X : px_X) (x2 : Int32) (x3 : Int32) (D : pu_D) (P : Int32 → pu_D → Prop) : Prop := ∀ z0 : Value, z0.category = 1 → ∀ z1 : Value, z1.category = 1 → pu_W X 165 (0, 0) px_c165_4 [z0, z1, .int x2, .int x3] [] D (pu_qi P)
theorem pu_u165_4 {X : px_X} {x2 : Int32} {x3 : Int32} {D : pu_D} {P : Int32 → pu_D → Prop} 
    (H : if x3 = 0 then (P x2 D) else (pu_h165_4 X (x2 + 1) (x3 &&& (x3 - 1)) D P)) :
    pu_h165_4 X x2 x3 D P := by
  intro z0 hz0 z1 hz1
  refine pu_iload_n rfl ?_
  refine pu_eq0 pu_t165_20 (fun h1 => ?_) (fun h1 => ?_)
  · replace H := pu_t h1 H
    refine pu_iload_n rfl ?_
    exact pu_iretI pu_rt165 H
  · replace H := pu_f h1 H
    refine pu_iinc (L' := [z0, z1, .int (x2 + 1), .int x3]) rfl (Or.inr hz1) rfl ?_
    refine pu_iload_n rfl ?_
    refine pu_iload_n rfl ?_
    refine pu_iconst ?_
    refine pu_isub ?_
    refine pu_iand ?_
    refine pu_istore_n (L' := [z0, z1, .int (x2 + 1), .int (x3 &&& (x3 - 1))]) (Or.inr rfl) rfl ?_
    refine pu_goto pu_t165_4 ?_
    exact H _ hz0 _ hz1
theorem pu_e165 {X : px_X} {x1 : Int32} {D : pu_D} {P : Int32 → pu_D → Prop} 
    (H : pu_h165_4 X 0 x1 D P) :
    pu_I X 165 [.ref 85, .int x1] D P := by
  refine pu_ent (E := [.ref 85, .int x1, .null, .null]) pu_n165.1 pu_n165.2 pu_t165_0 rfl ?_
  refine pu_iconst ?_
  refine pu_istore_n (L' := [.ref 85, .int x1, .int 0, .null]) (Or.inr rfl) rfl ?_
  refine pu_iload_n rfl ?_
  refine pu_istore_n (L' := [.ref 85, .int x1, .int 0, .int x1]) (Or.inr rfl) rfl ?_
  exact H _ rfl _ rfl
/-- LightAlongModel.wants(II)I -/
theorem pu_e166 {X : px_X} {x1 : Int32} {x2 : Int32} {D : pu_D} {P : Int32 → pu_D → Prop} 
    (H : pu_I X 151 [.ref 85, .int x1] D (fun y1 D2 => if y1 = 0 then (P (-1) D2) else ((px_in x1 8 = true) ∧ if (D2.1 103 x1.toNatClampNeg) = (3 - x2) then (P (-2) D2) else ((px_in x1 8 = true) ∧ if (D2.1 103 x1.toNatClampNeg) = 0 then (P (-3) D2) else (P 0 D2))))) :
    pu_I X 166 [.ref 85, .int x1, .int x2] D P := by
  refine pu_ent (E := [.ref 85, .int x1, .int x2]) pu_n166.1 pu_n166.2 pu_t166_0 rfl ?_
  refine pu_aload_n rfl ?_
  refine pu_iload_n rfl ?_
  refine pu_cv (vs := [.int x1]) (rest := []) pu_g151 ⟨pu_c85, by decide⟩ rfl rfl rfl rfl rfl (pu_CI (pu_I_imp H (fun y1 D2 H => ?_)))
  refine pu_ne0 pu_t166_12 (fun h3 => ?_) (fun h3 => ?_)
  · replace H := pu_f h3 H
    refine pu_aload_n rfl ?_
    refine pu_getR pu_kr8_29 pu_c85 pu_r85_29 ?_
    refine pu_iload_n rfl ?_
    refine pu_ial pu_c103 pu_ln103 H.1 ?_
    replace H := H.2
    refine pu_iconst ?_
    refine pu_iload_n rfl ?_
    refine pu_isub ?_
    refine pu_ne_ pu_t166_29 (fun h4 => ?_) (fun h4 => ?_)
    · replace H := pu_f h4 H
      refine pu_aload_n rfl ?_
      refine pu_getR pu_kr8_29 pu_c85 pu_r85_29 ?_
      refine pu_iload_n rfl ?_
      refine pu_ial pu_c103 pu_ln103 H.1 ?_
      replace H := H.2
      refine pu_ne0 pu_t166_43 (fun h5 => ?_) (fun h5 => ?_)
      · replace H := pu_f h5 H
        refine pu_iconst ?_
        exact pu_iretI pu_rt166 H
      · replace H := pu_t h5 H
        refine pu_bipush ?_
        refine pu_goto pu_t166_44 ?_
        exact pu_iretI pu_rt166 H
    · replace H := pu_t h4 H
      refine pu_bipush ?_
      refine pu_goto pu_t166_44 ?_
      exact pu_iretI pu_rt166 H
  · replace H := pu_t h3 H
    refine pu_iconst ?_
    refine pu_goto pu_t166_44 ?_
    exact pu_iretI pu_rt166 H
/-- LightAlongModel.intAt(II)I -/
theorem pu_e167 {X : px_X} {x1 : Int32} {x2 : Int32} {D : pu_D} {P : Int32 → pu_D → Prop} 
    (H : (px_in ((120 * x1) + x2) 960 = true) ∧ P (Int64.toInt32 (D.2 108 ((120 * x1) + x2).toNatClampNeg)) D) :
    pu_I X 167 [.ref 85, .int x1, .int x2] D P := by
  refine pu_ent (E := [.ref 85, .int x1, .int x2]) pu_n167.1 pu_n167.2 pu_t167_0 rfl ?_
  refine pu_aload_n rfl ?_
  refine pu_getR pu_kr8_34 pu_c85 pu_r85_34 ?_
  refine pu_bipush ?_
  refine pu_iload_n rfl ?_
  refine pu_imul ?_
  refine pu_iload_n rfl ?_
  refine pu_iadd ?_
  refine pu_lal pu_c108 pu_ln108 H.1 ?_
  replace H := H.2
  refine pu_l2i ?_
  exact pu_iretI pu_rt167 H
/-- LightAlongModel.isLamp(IIII)Z -/
theorem pu_e168 {X : px_X} {x1 : Int32} {x2 : Int32} {x3 : Int32} {x4 : Int32} {D : pu_D} {P : Int32 → pu_D → Prop} 
    (H : if x1 < 1 then (P 0 D) else (if 12 < x1 then (P 0 D) else (if x2 < 1 then (P 0 D) else (if 99 < x2 then (P 0 D) else (if x3 < 0 then (P 0 D) else (if 99 < x3 then (P 0 D) else (if x4 < 1 then (P 0 D) else (if 99 < x4 then (P 0 D) else (P 1 D))))))))) :
    pu_I X 168 [.ref 85, .int x1, .int x2, .int x3, .int x4] D P := by
  refine pu_ent (E := [.ref 85, .int x1, .int x2, .int x3, .int x4]) pu_n168.1 pu_n168.2 pu_t168_0 rfl ?_
  refine pu_iload_n rfl ?_
  refine pu_iconst ?_
  refine pu_lt_ pu_t168_49 (fun h1 => ?_) (fun h1 => ?_)
  · replace H := pu_t h1 H
    refine pu_iconst ?_
    exact pu_iretZ pu_rt168 (by decide) H
  · replace H := pu_f h1 H
    refine pu_iload_n rfl ?_
    refine pu_bipush ?_
    refine pu_gt_ pu_t168_49 (fun h2 => ?_) (fun h2 => ?_)
    · replace H := pu_t h2 H
      refine pu_iconst ?_
      exact pu_iretZ pu_rt168 (by decide) H
    · replace H := pu_f h2 H
      refine pu_iload_n rfl ?_
      refine pu_iconst ?_
      refine pu_lt_ pu_t168_49 (fun h3 => ?_) (fun h3 => ?_)
      · replace H := pu_t h3 H
        refine pu_iconst ?_
        exact pu_iretZ pu_rt168 (by decide) H
      · replace H := pu_f h3 H
        refine pu_iload_n rfl ?_
        refine pu_bipush ?_
        refine pu_gt_ pu_t168_49 (fun h4 => ?_) (fun h4 => ?_)
        · replace H := pu_t h4 H
          refine pu_iconst ?_
          exact pu_iretZ pu_rt168 (by decide) H
        · replace H := pu_f h4 H
          refine pu_iload_n rfl ?_
          refine pu_lt0 pu_t168_49 (fun h5 => ?_) (fun h5 => ?_)
          · replace H := pu_t h5 H
            refine pu_iconst ?_
            exact pu_iretZ pu_rt168 (by decide) H
          · replace H := pu_f h5 H
            refine pu_iload_n rfl ?_
            refine pu_bipush ?_
            refine pu_gt_ pu_t168_49 (fun h6 => ?_) (fun h6 => ?_)
            · replace H := pu_t h6 H
              refine pu_iconst ?_
              exact pu_iretZ pu_rt168 (by decide) H
            · replace H := pu_f h6 H
              refine pu_iload rfl ?_
              refine pu_iconst ?_
              refine pu_lt_ pu_t168_49 (fun h7 => ?_) (fun h7 => ?_)
              · replace H := pu_t h7 H
                refine pu_iconst ?_
                exact pu_iretZ pu_rt168 (by decide) H
              · replace H := pu_f h7 H
                refine pu_iload rfl ?_
                refine pu_bipush ?_
                refine pu_gt_ pu_t168_49 (fun h8 => ?_) (fun h8 => ?_)
                · replace H := pu_t h8 H
                  refine pu_iconst ?_
                  exact pu_iretZ pu_rt168 (by decide) H
                · replace H := pu_f h8 H
                  refine pu_iconst ?_
                  refine pu_goto pu_t168_50 ?_
                  exact pu_iretZ pu_rt168 (by decide) H
/-- LightAlongModel.sorts(IIII)I -/
theorem pu_e169 {X : px_X} {x1 : Int32} {x2 : Int32} {x3 : Int32} {x4 : Int32} {D : pu_D} {P : Int32 → pu_D → Prop} 
    (H : (px_in (D.1 85 0) 6 = true) ∧ (px_in ((pu_wi D 87 (D.1 85 0).toNatClampNeg x1).1 85 0) 6 = true) ∧ (px_in ((pu_wi (pu_wi D 87 (D.1 85 0).toNatClampNeg x1) 88 ((pu_wi D 87 (D.1 85 0).toNatClampNeg x1).1 85 0).toNatClampNeg x2).1 85 0) 6 = true) ∧ (px_in ((pu_wi (pu_wi (pu_wi D 87 (D.1 85 0).toNatClampNeg x1) 88 ((pu_wi D 87 (D.1 85 0).toNatClampNeg x1).1 85 0).toNatClampNeg x2) 89 ((pu_wi (pu_wi D 87 (D.1 85 0).toNatClampNeg x1) 88 ((pu_wi D 87 (D.1 85 0).toNatClampNeg x1).1 85 0).toNatClampNeg x2).1 85 0).toNatClampNeg x3).1 85 0) 6 = true) ∧ P ((pu_wi (pu_wi (pu_wi (pu_wi D 87 (D.1 85 0).toNatClampNeg x1) 88 ((pu_wi D 87 (D.1 85 0).toNatClampNeg x1).1 85 0).toNatClampNeg x2) 89 ((pu_wi (pu_wi D 87 (D.1 85 0).toNatClampNeg x1) 88 ((pu_wi D 87 (D.1 85 0).toNatClampNeg x1).1 85 0).toNatClampNeg x2).1 85 0).toNatClampNeg x3) 90 ((pu_wi (pu_wi (pu_wi D 87 (D.1 85 0).toNatClampNeg x1) 88 ((pu_wi D 87 (D.1 85 0).toNatClampNeg x1).1 85 0).toNatClampNeg x2) 89 ((pu_wi (pu_wi D 87 (D.1 85 0).toNatClampNeg x1) 88 ((pu_wi D 87 (D.1 85 0).toNatClampNeg x1).1 85 0).toNatClampNeg x2).1 85 0).toNatClampNeg x3).1 85 0).toNatClampNeg x4).1 85 0) (pu_wi (pu_wi (pu_wi (pu_wi (pu_wi D 87 (D.1 85 0).toNatClampNeg x1) 88 ((pu_wi D 87 (D.1 85 0).toNatClampNeg x1).1 85 0).toNatClampNeg x2) 89 ((pu_wi (pu_wi D 87 (D.1 85 0).toNatClampNeg x1) 88 ((pu_wi D 87 (D.1 85 0).toNatClampNeg x1).1 85 0).toNatClampNeg x2).1 85 0).toNatClampNeg x3) 90 ((pu_wi (pu_wi (pu_wi D 87 (D.1 85 0).toNatClampNeg x1) 88 ((pu_wi D 87 (D.1 85 0).toNatClampNeg x1).1 85 0).toNatClampNeg x2) 89 ((pu_wi (pu_wi D 87 (D.1 85 0).toNatClampNeg x1) 88 ((pu_wi D 87 (D.1 85 0).toNatClampNeg x1).1 85 0).toNatClampNeg x2).1 85 0).toNatClampNeg x3).1 85 0).toNatClampNeg x4) 85 0 (((pu_wi (pu_wi (pu_wi (pu_wi D 87 (D.1 85 0).toNatClampNeg x1) 88 ((pu_wi D 87 (D.1 85 0).toNatClampNeg x1).1 85 0).toNatClampNeg x2) 89 ((pu_wi (pu_wi D 87 (D.1 85 0).toNatClampNeg x1) 88 ((pu_wi D 87 (D.1 85 0).toNatClampNeg x1).1 85 0).toNatClampNeg x2).1 85 0).toNatClampNeg x3) 90 ((pu_wi (pu_wi (pu_wi D 87 (D.1 85 0).toNatClampNeg x1) 88 ((pu_wi D 87 (D.1 85 0).toNatClampNeg x1).1 85 0).toNatClampNeg x2) 89 ((pu_wi (pu_wi D 87 (D.1 85 0).toNatClampNeg x1) 88 ((pu_wi D 87 (D.1 85 0).toNatClampNeg x1).1 85 0).toNatClampNeg x2).1 85 0).toNatClampNeg x3).1 85 0).toNatClampNeg x4).1 85 0) + 1))) :
    pu_I X 169 [.ref 85, .int x1, .int x2, .int x3, .int x4] D P := by
  refine pu_ent (E := [.ref 85, .int x1, .int x2, .int x3, .int x4]) pu_n169.1 pu_n169.2 pu_t169_0 rfl ?_
  refine pu_aload_n rfl ?_
  refine pu_getR pu_kr8_13 pu_c85 pu_r85_13 ?_
  refine pu_aload_n rfl ?_
  refine pu_getI pu_k8_0 pu_c85 ?_
  refine pu_iload_n rfl ?_
  refine pu_ias pu_c87 pu_ln87 H.1 ?_
  replace H := H.2
  refine pu_aload_n rfl ?_
  refine pu_getR pu_kr8_14 pu_c85 pu_r85_14 ?_
  refine pu_aload_n rfl ?_
  refine pu_getI pu_k8_0 pu_c85 ?_
  refine pu_iload_n rfl ?_
  refine pu_ias pu_c88 pu_ln88 H.1 ?_
  replace H := H.2
  refine pu_aload_n rfl ?_
  refine pu_getR pu_kr8_15 pu_c85 pu_r85_15 ?_
  refine pu_aload_n rfl ?_
  refine pu_getI pu_k8_0 pu_c85 ?_
  refine pu_iload_n rfl ?_
  refine pu_ias pu_c89 pu_ln89 H.1 ?_
  replace H := H.2
  refine pu_aload_n rfl ?_
  refine pu_getR pu_kr8_16 pu_c85 pu_r85_16 ?_
  refine pu_aload_n rfl ?_
  refine pu_getI pu_k8_0 pu_c85 ?_
  refine pu_iload rfl ?_
  refine pu_ias pu_c90 pu_ln90 H.1 ?_
  replace H := H.2
  refine pu_aload_n rfl ?_
  refine pu_dup rfl ?_
  refine pu_getI pu_k8_0 pu_c85 ?_
  refine pu_dup_x1 rfl rfl ?_
  refine pu_iconst ?_
  refine pu_iadd ?_
  refine pu_putI pu_p8_0 pu_c85 ?_
  exact pu_iretI pu_rt169 H
/-- LightAlongModel.sort(IIII)I -/
theorem pu_e170 {X : px_X} {x1 : Int32} {x2 : Int32} {x3 : Int32} {x4 : Int32} {D : pu_D} {P : Int32 → pu_D → Prop} 
    (H : pu_I X 168 [.ref 85, .int x1, .int x2, .int x3, .int x4] D (fun y1 D2 => if y1 = 0 then (pu_I X 149 [.ref 85, .int (-6)] D2 (fun y9 D10 => P y9 D10)) else (if (D2.1 85 0) = 6 then (pu_I X 149 [.ref 85, .int (-7)] D2 (fun y7 D8 => P y7 D8)) else (pu_I X 169 [.ref 85, .int x1, .int x2, .int x3, .int x4] D2 (fun y5 D6 => P y5 D6))))) :
    pu_I X 170 [.ref 85, .int x1, .int x2, .int x3, .int x4] D P := by
  refine pu_ent (E := [.ref 85, .int x1, .int x2, .int x3, .int x4]) pu_n170.1 pu_n170.2 pu_t170_0 rfl ?_
  refine pu_aload_n rfl ?_
  refine pu_iload_n rfl ?_
  refine pu_iload_n rfl ?_
  refine pu_iload_n rfl ?_
  refine pu_iload rfl ?_
  refine pu_cv (vs := [.int x1, .int x2, .int x3, .int x4]) (rest := []) pu_g168 ⟨pu_c85, by decide⟩ rfl rfl rfl rfl rfl (pu_CI (pu_I_imp H (fun y1 D2 H => ?_)))
  refine pu_ne0 pu_t170_19 (fun h3 => ?_) (fun h3 => ?_)
  · replace H := pu_f h3 H
    refine pu_aload_n rfl ?_
    refine pu_getI pu_k8_0 pu_c85 ?_
    refine pu_bipush ?_
    refine pu_ne_ pu_t170_37 (fun h4 => ?_) (fun h4 => ?_)
    · replace H := pu_f h4 H
      refine pu_aload_n rfl ?_
      refine pu_iload_n rfl ?_
      refine pu_iload_n rfl ?_
      refine pu_iload_n rfl ?_
      refine pu_iload rfl ?_
      refine pu_cv (vs := [.int x1, .int x2, .int x3, .int x4]) (rest := []) pu_g169 ⟨pu_c85, by decide⟩ rfl rfl rfl rfl rfl (pu_CI (pu_I_imp H (fun y5 D6 H => ?_)))
      exact pu_iretI pu_rt170 H
    · replace H := pu_t h4 H
      refine pu_aload_n rfl ?_
      refine pu_bipush ?_
      refine pu_cv (vs := [.int (-7)]) (rest := []) pu_g149 ⟨pu_c85, by decide⟩ rfl rfl rfl rfl rfl (pu_CI (pu_I_imp H (fun y7 D8 H => ?_)))
      refine pu_goto pu_t170_46 ?_
      exact pu_iretI pu_rt170 H
  · replace H := pu_t h3 H
    refine pu_aload_n rfl ?_
    refine pu_bipush ?_
    refine pu_cv (vs := [.int (-6)]) (rest := []) pu_g149 ⟨pu_c85, by decide⟩ rfl rfl rfl rfl rfl (pu_CI (pu_I_imp H (fun y9 D10 H => ?_)))
    exact pu_iretI pu_rt170 H
/-- LightAlongModel.places(II)I -/
theorem pu_e171 {X : px_X} {x1 : Int32} {x2 : Int32} {D : pu_D} {P : Int32 → pu_D → Prop} 
    (H : (px_in (D.1 85 1) 9 = true) ∧ (px_in ((pu_wi D 91 (D.1 85 1).toNatClampNeg x1).1 85 1) 9 = true) ∧ (px_in ((pu_wi (pu_wi D 91 (D.1 85 1).toNatClampNeg x1) 92 ((pu_wi D 91 (D.1 85 1).toNatClampNeg x1).1 85 1).toNatClampNeg x2).1 85 1) 9 = true) ∧ (px_in ((pu_wi (pu_wi (pu_wi D 91 (D.1 85 1).toNatClampNeg x1) 92 ((pu_wi D 91 (D.1 85 1).toNatClampNeg x1).1 85 1).toNatClampNeg x2) 93 ((pu_wi (pu_wi D 91 (D.1 85 1).toNatClampNeg x1) 92 ((pu_wi D 91 (D.1 85 1).toNatClampNeg x1).1 85 1).toNatClampNeg x2).1 85 1).toNatClampNeg (-1)).1 85 1) 9 = true) ∧ P ((pu_wi (pu_wi (pu_wi (pu_wi D 91 (D.1 85 1).toNatClampNeg x1) 92 ((pu_wi D 91 (D.1 85 1).toNatClampNeg x1).1 85 1).toNatClampNeg x2) 93 ((pu_wi (pu_wi D 91 (D.1 85 1).toNatClampNeg x1) 92 ((pu_wi D 91 (D.1 85 1).toNatClampNeg x1).1 85 1).toNatClampNeg x2).1 85 1).toNatClampNeg (-1)) 94 ((pu_wi (pu_wi (pu_wi D 91 (D.1 85 1).toNatClampNeg x1) 92 ((pu_wi D 91 (D.1 85 1).toNatClampNeg x1).1 85 1).toNatClampNeg x2) 93 ((pu_wi (pu_wi D 91 (D.1 85 1).toNatClampNeg x1) 92 ((pu_wi D 91 (D.1 85 1).toNatClampNeg x1).1 85 1).toNatClampNeg x2).1 85 1).toNatClampNeg (-1)).1 85 1).toNatClampNeg 0).1 85 1) (pu_wi (pu_wi (pu_wi (pu_wi (pu_wi D 91 (D.1 85 1).toNatClampNeg x1) 92 ((pu_wi D 91 (D.1 85 1).toNatClampNeg x1).1 85 1).toNatClampNeg x2) 93 ((pu_wi (pu_wi D 91 (D.1 85 1).toNatClampNeg x1) 92 ((pu_wi D 91 (D.1 85 1).toNatClampNeg x1).1 85 1).toNatClampNeg x2).1 85 1).toNatClampNeg (-1)) 94 ((pu_wi (pu_wi (pu_wi D 91 (D.1 85 1).toNatClampNeg x1) 92 ((pu_wi D 91 (D.1 85 1).toNatClampNeg x1).1 85 1).toNatClampNeg x2) 93 ((pu_wi (pu_wi D 91 (D.1 85 1).toNatClampNeg x1) 92 ((pu_wi D 91 (D.1 85 1).toNatClampNeg x1).1 85 1).toNatClampNeg x2).1 85 1).toNatClampNeg (-1)).1 85 1).toNatClampNeg 0) 85 1 (((pu_wi (pu_wi (pu_wi (pu_wi D 91 (D.1 85 1).toNatClampNeg x1) 92 ((pu_wi D 91 (D.1 85 1).toNatClampNeg x1).1 85 1).toNatClampNeg x2) 93 ((pu_wi (pu_wi D 91 (D.1 85 1).toNatClampNeg x1) 92 ((pu_wi D 91 (D.1 85 1).toNatClampNeg x1).1 85 1).toNatClampNeg x2).1 85 1).toNatClampNeg (-1)) 94 ((pu_wi (pu_wi (pu_wi D 91 (D.1 85 1).toNatClampNeg x1) 92 ((pu_wi D 91 (D.1 85 1).toNatClampNeg x1).1 85 1).toNatClampNeg x2) 93 ((pu_wi (pu_wi D 91 (D.1 85 1).toNatClampNeg x1) 92 ((pu_wi D 91 (D.1 85 1).toNatClampNeg x1).1 85 1).toNatClampNeg x2).1 85 1).toNatClampNeg (-1)).1 85 1).toNatClampNeg 0).1 85 1) + 1))) :
    pu_I X 171 [.ref 85, .int x1, .int x2] D P := by
  refine pu_ent (E := [.ref 85, .int x1, .int x2]) pu_n171.1 pu_n171.2 pu_t171_0 rfl ?_
  refine pu_aload_n rfl ?_
  refine pu_getR pu_kr8_17 pu_c85 pu_r85_17 ?_
  refine pu_aload_n rfl ?_
  refine pu_getI pu_k8_1 pu_c85 ?_
  refine pu_iload_n rfl ?_
  refine pu_ias pu_c91 pu_ln91 H.1 ?_
  replace H := H.2
  refine pu_aload_n rfl ?_
  refine pu_getR pu_kr8_18 pu_c85 pu_r85_18 ?_
  refine pu_aload_n rfl ?_
  refine pu_getI pu_k8_1 pu_c85 ?_
  refine pu_iload_n rfl ?_
  refine pu_ias pu_c92 pu_ln92 H.1 ?_
  replace H := H.2
  refine pu_aload_n rfl ?_
  refine pu_getR pu_kr8_19 pu_c85 pu_r85_19 ?_
  refine pu_aload_n rfl ?_
  refine pu_getI pu_k8_1 pu_c85 ?_
  refine pu_iconst ?_
  refine pu_ias pu_c93 pu_ln93 H.1 ?_
  replace H := H.2
  refine pu_aload_n rfl ?_
  refine pu_getR pu_kr8_20 pu_c85 pu_r85_20 ?_
  refine pu_aload_n rfl ?_
  refine pu_getI pu_k8_1 pu_c85 ?_
  refine pu_iconst ?_
  refine pu_ias pu_c94 pu_ln94 H.1 ?_
  replace H := H.2
  refine pu_aload_n rfl ?_
  refine pu_dup rfl ?_
  refine pu_getI pu_k8_1 pu_c85 ?_
  refine pu_dup_x1 rfl rfl ?_
  refine pu_iconst ?_
  refine pu_iadd ?_
  refine pu_putI pu_p8_1 pu_c85 ?_
  exact pu_iretI pu_rt171 H
/-- LightAlongModel.place(II)I -/
theorem pu_e172 {X : px_X} {x1 : Int32} {x2 : Int32} {D : pu_D} {P : Int32 → pu_D → Prop} 
    (H : pu_I X 152 [.ref 85, .int x1] D (fun y1 D2 => if y1 = 0 then (pu_I X 149 [.ref 85, .int (-1)] D2 (fun y15 D16 => P y15 D16)) else (if x2 < 0 then (pu_I X 149 [.ref 85, .int (-6)] D2 (fun y5 D6 => P y5 D6)) else (if 99 < x2 then (pu_I X 149 [.ref 85, .int (-6)] D2 (fun y13 D14 => P y13 D14)) else (if (D2.1 85 1) = 9 then (pu_I X 149 [.ref 85, .int (-7)] D2 (fun y11 D12 => P y11 D12)) else (pu_I X 171 [.ref 85, .int x1, .int x2] D2 (fun y9 D10 => P y9 D10))))))) :
    pu_I X 172 [.ref 85, .int x1, .int x2] D P := by
  refine pu_ent (E := [.ref 85, .int x1, .int x2]) pu_n172.1 pu_n172.2 pu_t172_0 rfl ?_
  refine pu_aload_n rfl ?_
  refine pu_iload_n rfl ?_
  refine pu_cv (vs := [.int x1]) (rest := []) pu_g152 ⟨pu_c85, by decide⟩ rfl rfl rfl rfl rfl (pu_CI (pu_I_imp H (fun y1 D2 H => ?_)))
  refine pu_ne0 pu_t172_14 (fun h3 => ?_) (fun h3 => ?_)
  · replace H := pu_f h3 H
    refine pu_iload_n rfl ?_
    refine pu_lt0 pu_t172_24 (fun h4 => ?_) (fun h4 => ?_)
    · replace H := pu_t h4 H
      refine pu_aload_n rfl ?_
      refine pu_bipush ?_
      refine pu_cv (vs := [.int (-6)]) (rest := []) pu_g149 ⟨pu_c85, by decide⟩ rfl rfl rfl rfl rfl (pu_CI (pu_I_imp H (fun y5 D6 H => ?_)))
      exact pu_iretI pu_rt172 H
    · replace H := pu_f h4 H
      refine pu_iload_n rfl ?_
      refine pu_bipush ?_
      refine pu_le_ pu_t172_31 (fun h7 => ?_) (fun h7 => ?_)
      · replace H := pu_f h7 H
        refine pu_aload_n rfl ?_
        refine pu_getI pu_k8_1 pu_c85 ?_
        refine pu_bipush ?_
        refine pu_ne_ pu_t172_49 (fun h8 => ?_) (fun h8 => ?_)
        · replace H := pu_f h8 H
          refine pu_aload_n rfl ?_
          refine pu_iload_n rfl ?_
          refine pu_iload_n rfl ?_
          refine pu_cv (vs := [.int x1, .int x2]) (rest := []) pu_g171 ⟨pu_c85, by decide⟩ rfl rfl rfl rfl rfl (pu_CI (pu_I_imp H (fun y9 D10 H => ?_)))
          exact pu_iretI pu_rt172 H
        · replace H := pu_t h8 H
          refine pu_aload_n rfl ?_
          refine pu_bipush ?_
          refine pu_cv (vs := [.int (-7)]) (rest := []) pu_g149 ⟨pu_c85, by decide⟩ rfl rfl rfl rfl rfl (pu_CI (pu_I_imp H (fun y11 D12 H => ?_)))
          refine pu_goto pu_t172_55 ?_
          exact pu_iretI pu_rt172 H
      · replace H := pu_t h7 H
        refine pu_aload_n rfl ?_
        refine pu_bipush ?_
        refine pu_cv (vs := [.int (-6)]) (rest := []) pu_g149 ⟨pu_c85, by decide⟩ rfl rfl rfl rfl rfl (pu_CI (pu_I_imp H (fun y13 D14 H => ?_)))
        exact pu_iretI pu_rt172 H
  · replace H := pu_t h3 H
    refine pu_aload_n rfl ?_
    refine pu_iconst ?_
    refine pu_cv (vs := [.int (-1)]) (rest := []) pu_g149 ⟨pu_c85, by decide⟩ rfl rfl rfl rfl rfl (pu_CI (pu_I_imp H (fun y15 D16 H => ?_)))
    exact pu_iretI pu_rt172 H
/-- LightAlongModel.isFull(I)Z -/
theorem pu_e173 {X : px_X} {x1 : Int32} {D : pu_D} {P : Int32 → pu_D → Prop} 
    (H : if x1 = 0 then (if (D.1 85 2) = 12 then (P 1 D) else (P 0 D)) else (if x1 = 1 then (if (D.1 85 3) = 12 then (P 1 D) else (P 0 D)) else (if (D.1 85 6) = 6 then (P 1 D) else (P 0 D)))) :
    pu_I X 173 [.ref 85, .int x1] D P := by
  refine pu_ent (E := [.ref 85, .int x1]) pu_n173.1 pu_n173.2 pu_t173_0 rfl ?_
  refine pu_iload_n rfl ?_
  refine pu_ne0 pu_t173_21 (fun h1 => ?_) (fun h1 => ?_)
  · replace H := pu_f h1 H
    refine pu_iload_n rfl ?_
    refine pu_iconst ?_
    refine pu_ne_ pu_t173_43 (fun h2 => ?_) (fun h2 => ?_)
    · replace H := pu_f h2 H
      refine pu_aload_n rfl ?_
      refine pu_getI pu_k8_6 pu_c85 ?_
      refine pu_bipush ?_
      refine pu_ne_ pu_t173_56 (fun h3 => ?_) (fun h3 => ?_)
      · replace H := pu_f h3 H
        refine pu_iconst ?_
        exact pu_iretZ pu_rt173 (by decide) H
      · replace H := pu_t h3 H
        refine pu_iconst ?_
        refine pu_goto pu_t173_57 ?_
        exact pu_iretZ pu_rt173 (by decide) H
    · replace H := pu_t h2 H
      refine pu_aload_n rfl ?_
      refine pu_getI pu_k8_3 pu_c85 ?_
      refine pu_bipush ?_
      refine pu_ne_ pu_t173_39 (fun h4 => ?_) (fun h4 => ?_)
      · replace H := pu_f h4 H
        refine pu_iconst ?_
        refine pu_goto pu_t173_57 ?_
        exact pu_iretZ pu_rt173 (by decide) H
      · replace H := pu_t h4 H
        refine pu_iconst ?_
        refine pu_goto pu_t173_57 ?_
        exact pu_iretZ pu_rt173 (by decide) H
  · replace H := pu_t h1 H
    refine pu_aload_n rfl ?_
    refine pu_getI pu_k8_2 pu_c85 ?_
    refine pu_bipush ?_
    refine pu_ne_ pu_t173_17 (fun h5 => ?_) (fun h5 => ?_)
    · replace H := pu_f h5 H
      refine pu_iconst ?_
      refine pu_goto pu_t173_57 ?_
      exact pu_iretZ pu_rt173 (by decide) H
    · replace H := pu_t h5 H
      refine pu_iconst ?_
      refine pu_goto pu_t173_57 ?_
      exact pu_iretZ pu_rt173 (by decide) H
/-- LightAlongModel.stands(II)I -/
theorem pu_e174 {X : px_X} {x1 : Int32} {x2 : Int32} {D : pu_D} {P : Int32 → pu_D → Prop} 
    (H : if x1 = 0 then ((px_in (D.1 85 2) 12 = true) ∧ if x1 = 0 then (P ((pu_wi (pu_wi D 85 2 ((D.1 85 2) + 1)) 95 (D.1 85 2).toNatClampNeg x2).1 85 2) (pu_wi (pu_wi D 85 2 ((D.1 85 2) + 1)) 95 (D.1 85 2).toNatClampNeg x2)) else (if x1 = 1 then (P ((pu_wi (pu_wi D 85 2 ((D.1 85 2) + 1)) 95 (D.1 85 2).toNatClampNeg x2).1 85 3) (pu_wi (pu_wi D 85 2 ((D.1 85 2) + 1)) 95 (D.1 85 2).toNatClampNeg x2)) else (P ((pu_wi (pu_wi D 85 2 ((D.1 85 2) + 1)) 95 (D.1 85 2).toNatClampNeg x2).1 85 6) (pu_wi (pu_wi D 85 2 ((D.1 85 2) + 1)) 95 (D.1 85 2).toNatClampNeg x2)))) else (if x1 = 1 then ((px_in (D.1 85 3) 12 = true) ∧ if x1 = 0 then (P ((pu_wi (pu_wi D 85 3 ((D.1 85 3) + 1)) 96 (D.1 85 3).toNatClampNeg x2).1 85 2) (pu_wi (pu_wi D 85 3 ((D.1 85 3) + 1)) 96 (D.1 85 3).toNatClampNeg x2)) else (if x1 = 1 then (P ((pu_wi (pu_wi D 85 3 ((D.1 85 3) + 1)) 96 (D.1 85 3).toNatClampNeg x2).1 85 3) (pu_wi (pu_wi D 85 3 ((D.1 85 3) + 1)) 96 (D.1 85 3).toNatClampNeg x2)) else (P ((pu_wi (pu_wi D 85 3 ((D.1 85 3) + 1)) 96 (D.1 85 3).toNatClampNeg x2).1 85 6) (pu_wi (pu_wi D 85 3 ((D.1 85 3) + 1)) 96 (D.1 85 3).toNatClampNeg x2)))) else ((px_in (D.1 85 6) 6 = true) ∧ if x1 = 0 then (P ((pu_wi (pu_wi D 85 6 ((D.1 85 6) + 1)) 102 (D.1 85 6).toNatClampNeg x2).1 85 2) (pu_wi (pu_wi D 85 6 ((D.1 85 6) + 1)) 102 (D.1 85 6).toNatClampNeg x2)) else (if x1 = 1 then (P ((pu_wi (pu_wi D 85 6 ((D.1 85 6) + 1)) 102 (D.1 85 6).toNatClampNeg x2).1 85 3) (pu_wi (pu_wi D 85 6 ((D.1 85 6) + 1)) 102 (D.1 85 6).toNatClampNeg x2)) else (P ((pu_wi (pu_wi D 85 6 ((D.1 85 6) + 1)) 102 (D.1 85 6).toNatClampNeg x2).1 85 6) (pu_wi (pu_wi D 85 6 ((D.1 85 6) + 1)) 102 (D.1 85 6).toNatClampNeg x2)))))) :
    pu_I X 174 [.ref 85, .int x1, .int x2] D P := by
  refine pu_ent (E := [.ref 85, .int x1, .int x2]) pu_n174.1 pu_n174.2 pu_t174_0 rfl ?_
  refine pu_iload_n rfl ?_
  refine pu_ne0 pu_t174_24 (fun h1 => ?_) (fun h1 => ?_)
  · replace H := pu_f h1 H
    refine pu_iload_n rfl ?_
    refine pu_iconst ?_
    refine pu_ne_ pu_t174_49 (fun h2 => ?_) (fun h2 => ?_)
    · replace H := pu_f h2 H
      refine pu_aload_n rfl ?_
      refine pu_getR pu_kr8_28 pu_c85 pu_r85_28 ?_
      refine pu_aload_n rfl ?_
      refine pu_dup rfl ?_
      refine pu_getI pu_k8_6 pu_c85 ?_
      refine pu_dup_x1 rfl rfl ?_
      refine pu_iconst ?_
      refine pu_iadd ?_
      refine pu_putI pu_p8_6 pu_c85 ?_
      refine pu_iload_n rfl ?_
      refine pu_ias pu_c102 pu_ln102 H.1 ?_
      replace H := H.2
      refine pu_iload_n rfl ?_
      refine pu_ne0 pu_t174_77 (fun h3 => ?_) (fun h3 => ?_)
      · replace H := pu_f h3 H
        refine pu_iload_n rfl ?_
        refine pu_iconst ?_
        refine pu_ne_ pu_t174_89 (fun h4 => ?_) (fun h4 => ?_)
        · replace H := pu_f h4 H
          refine pu_aload_n rfl ?_
          refine pu_getI pu_k8_6 pu_c85 ?_
          exact pu_iretI pu_rt174 H
        · replace H := pu_t h4 H
          refine pu_aload_n rfl ?_
          refine pu_getI pu_k8_3 pu_c85 ?_
          refine pu_goto pu_t174_93 ?_
          exact pu_iretI pu_rt174 H
      · replace H := pu_t h3 H
        refine pu_aload_n rfl ?_
        refine pu_getI pu_k8_2 pu_c85 ?_
        refine pu_goto pu_t174_93 ?_
        exact pu_iretI pu_rt174 H
    · replace H := pu_t h2 H
      refine pu_aload_n rfl ?_
      refine pu_getR pu_kr8_22 pu_c85 pu_r85_22 ?_
      refine pu_aload_n rfl ?_
      refine pu_dup rfl ?_
      refine pu_getI pu_k8_3 pu_c85 ?_
      refine pu_dup_x1 rfl rfl ?_
      refine pu_iconst ?_
      refine pu_iadd ?_
      refine pu_putI pu_p8_3 pu_c85 ?_
      refine pu_iload_n rfl ?_
      refine pu_ias pu_c96 pu_ln96 H.1 ?_
      replace H := H.2
      refine pu_goto pu_t174_66 ?_
      refine pu_iload_n rfl ?_
      refine pu_ne0 pu_t174_77 (fun h5 => ?_) (fun h5 => ?_)
      · replace H := pu_f h5 H
        refine pu_iload_n rfl ?_
        refine pu_iconst ?_
        refine pu_ne_ pu_t174_89 (fun h6 => ?_) (fun h6 => ?_)
        · replace H := pu_f h6 H
          refine pu_aload_n rfl ?_
          refine pu_getI pu_k8_6 pu_c85 ?_
          exact pu_iretI pu_rt174 H
        · replace H := pu_t h6 H
          refine pu_aload_n rfl ?_
          refine pu_getI pu_k8_3 pu_c85 ?_
          refine pu_goto pu_t174_93 ?_
          exact pu_iretI pu_rt174 H
      · replace H := pu_t h5 H
        refine pu_aload_n rfl ?_
        refine pu_getI pu_k8_2 pu_c85 ?_
        refine pu_goto pu_t174_93 ?_
        exact pu_iretI pu_rt174 H
  · replace H := pu_t h1 H
    refine pu_aload_n rfl ?_
    refine pu_getR pu_kr8_21 pu_c85 pu_r85_21 ?_
    refine pu_aload_n rfl ?_
    refine pu_dup rfl ?_
    refine pu_getI pu_k8_2 pu_c85 ?_
    refine pu_dup_x1 rfl rfl ?_
    refine pu_iconst ?_
    refine pu_iadd ?_
    refine pu_putI pu_p8_2 pu_c85 ?_
    refine pu_iload_n rfl ?_
    refine pu_ias pu_c95 pu_ln95 H.1 ?_
    replace H := H.2
    refine pu_goto pu_t174_66 ?_
    refine pu_iload_n rfl ?_
    refine pu_ne0 pu_t174_77 (fun h7 => ?_) (fun h7 => ?_)
    · replace H := pu_f h7 H
      refine pu_iload_n rfl ?_
      refine pu_iconst ?_
      refine pu_ne_ pu_t174_89 (fun h8 => ?_) (fun h8 => ?_)
      · replace H := pu_f h8 H
        refine pu_aload_n rfl ?_
        refine pu_getI pu_k8_6 pu_c85 ?_
        exact pu_iretI pu_rt174 H
      · replace H := pu_t h8 H
        refine pu_aload_n rfl ?_
        refine pu_getI pu_k8_3 pu_c85 ?_
        refine pu_goto pu_t174_93 ?_
        exact pu_iretI pu_rt174 H
    · replace H := pu_t h7 H
      refine pu_aload_n rfl ?_
      refine pu_getI pu_k8_2 pu_c85 ?_
      refine pu_goto pu_t174_93 ?_
      exact pu_iretI pu_rt174 H
/-- LightAlongModel.stand(II)I -/
theorem pu_e175 {X : px_X} {x1 : Int32} {x2 : Int32} {D : pu_D} {P : Int32 → pu_D → Prop} 
    (H : if x1 < 0 then (pu_I X 149 [.ref 85, .int (-1)] D (fun y2 D3 => P y2 D3)) else (if 2 < x1 then (pu_I X 149 [.ref 85, .int (-1)] D (fun y5 D6 => P y5 D6)) else (pu_I X 152 [.ref 85, .int x2] D (fun y7 D8 => if y7 = 0 then (pu_I X 149 [.ref 85, .int (-1)] D8 (fun y17 D18 => P y17 D18)) else (pu_I X 173 [.ref 85, .int x1] D8 (fun y10 D11 => if y10 = 0 then (pu_I X 174 [.ref 85, .int x1, .int x2] D11 (fun y13 D14 => P y13 D14)) else (pu_I X 149 [.ref 85, .int (-7)] D11 (fun y15 D16 => P y15 D16)))))))) :
    pu_I X 175 [.ref 85, .int x1, .int x2] D P := by
  refine pu_ent (E := [.ref 85, .int x1, .int x2]) pu_n175.1 pu_n175.2 pu_t175_0 rfl ?_
  refine pu_iload_n rfl ?_
  refine pu_lt0 pu_t175_17 (fun h1 => ?_) (fun h1 => ?_)
  · replace H := pu_t h1 H
    refine pu_aload_n rfl ?_
    refine pu_iconst ?_
    refine pu_cv (vs := [.int (-1)]) (rest := []) pu_g149 ⟨pu_c85, by decide⟩ rfl rfl rfl rfl rfl (pu_CI (pu_I_imp H (fun y2 D3 H => ?_)))
    exact pu_iretI pu_rt175 H
  · replace H := pu_f h1 H
    refine pu_iload_n rfl ?_
    refine pu_iconst ?_
    refine pu_gt_ pu_t175_17 (fun h4 => ?_) (fun h4 => ?_)
    · replace H := pu_t h4 H
      refine pu_aload_n rfl ?_
      refine pu_iconst ?_
      refine pu_cv (vs := [.int (-1)]) (rest := []) pu_g149 ⟨pu_c85, by decide⟩ rfl rfl rfl rfl rfl (pu_CI (pu_I_imp H (fun y5 D6 H => ?_)))
      exact pu_iretI pu_rt175 H
    · replace H := pu_f h4 H
      refine pu_aload_n rfl ?_
      refine pu_iload_n rfl ?_
      refine pu_cv (vs := [.int x2]) (rest := []) pu_g152 ⟨pu_c85, by decide⟩ rfl rfl rfl rfl rfl (pu_CI (pu_I_imp H (fun y7 D8 H => ?_)))
      refine pu_ne0 pu_t175_23 (fun h9 => ?_) (fun h9 => ?_)
      · replace H := pu_f h9 H
        refine pu_aload_n rfl ?_
        refine pu_iload_n rfl ?_
        refine pu_cv (vs := [.int x1]) (rest := []) pu_g173 ⟨pu_c85, by decide⟩ rfl rfl rfl rfl rfl (pu_CI (pu_I_imp H (fun y10 D11 H => ?_)))
        refine pu_eq0 pu_t175_40 (fun h12 => ?_) (fun h12 => ?_)
        · replace H := pu_t h12 H
          refine pu_aload_n rfl ?_
          refine pu_iload_n rfl ?_
          refine pu_iload_n rfl ?_
          refine pu_cv (vs := [.int x1, .int x2]) (rest := []) pu_g174 ⟨pu_c85, by decide⟩ rfl rfl rfl rfl rfl (pu_CI (pu_I_imp H (fun y13 D14 H => ?_)))
          exact pu_iretI pu_rt175 H
        · replace H := pu_f h12 H
          refine pu_aload_n rfl ?_
          refine pu_bipush ?_
          refine pu_cv (vs := [.int (-7)]) (rest := []) pu_g149 ⟨pu_c85, by decide⟩ rfl rfl rfl rfl rfl (pu_CI (pu_I_imp H (fun y15 D16 H => ?_)))
          refine pu_goto pu_t175_46 ?_
          exact pu_iretI pu_rt175 H
      · replace H := pu_t h9 H
        refine pu_aload_n rfl ?_
        refine pu_iconst ?_
        refine pu_cv (vs := [.int (-1)]) (rest := []) pu_g149 ⟨pu_c85, by decide⟩ rfl rfl rfl rfl rfl (pu_CI (pu_I_imp H (fun y17 D18 H => ?_)))
        exact pu_iretI pu_rt175 H
/-- LightAlongModel.windows(II)I -/
theorem pu_e176 {X : px_X} {x1 : Int32} {x2 : Int32} {D : pu_D} {P : Int32 → pu_D → Prop} 
    (H : (px_in (D.1 85 4) 12 = true) ∧ (px_in ((pu_wi D 97 (D.1 85 4).toNatClampNeg x1).1 85 4) 12 = true) ∧ P (((pu_wi (pu_wi D 97 (D.1 85 4).toNatClampNeg x1) 98 ((pu_wi D 97 (D.1 85 4).toNatClampNeg x1).1 85 4).toNatClampNeg x2).1 85 4) + 1) (pu_wi (pu_wi (pu_wi D 97 (D.1 85 4).toNatClampNeg x1) 98 ((pu_wi D 97 (D.1 85 4).toNatClampNeg x1).1 85 4).toNatClampNeg x2) 85 4 (((pu_wi (pu_wi D 97 (D.1 85 4).toNatClampNeg x1) 98 ((pu_wi D 97 (D.1 85 4).toNatClampNeg x1).1 85 4).toNatClampNeg x2).1 85 4) + 1))) :
    pu_I X 176 [.ref 85, .int x1, .int x2] D P := by
  refine pu_ent (E := [.ref 85, .int x1, .int x2]) pu_n176.1 pu_n176.2 pu_t176_0 rfl ?_
  refine pu_aload_n rfl ?_
  refine pu_getR pu_kr8_23 pu_c85 pu_r85_23 ?_
  refine pu_aload_n rfl ?_
  refine pu_getI pu_k8_4 pu_c85 ?_
  refine pu_iload_n rfl ?_
  refine pu_ias pu_c97 pu_ln97 H.1 ?_
  replace H := H.2
  refine pu_aload_n rfl ?_
  refine pu_getR pu_kr8_24 pu_c85 pu_r85_24 ?_
  refine pu_aload_n rfl ?_
  refine pu_getI pu_k8_4 pu_c85 ?_
  refine pu_iload_n rfl ?_
  refine pu_ias pu_c98 pu_ln98 H.1 ?_
  replace H := H.2
  refine pu_aload_n rfl ?_
  refine pu_dup rfl ?_
  refine pu_getI pu_k8_4 pu_c85 ?_
  refine pu_iconst ?_
  refine pu_iadd ?_
  refine pu_dup_x1 rfl rfl ?_
  refine pu_putI pu_p8_4 pu_c85 ?_
  exact pu_iretI pu_rt176 H
/-- LightAlongModel.window(II)I -/
theorem pu_e177 {X : px_X} {x1 : Int32} {x2 : Int32} {D : pu_D} {P : Int32 → pu_D → Prop} 
    (H : pu_I X 152 [.ref 85, .int x1] D (fun y1 D2 => if y1 = 0 then (pu_I X 149 [.ref 85, .int (-1)] D2 (fun y15 D16 => P y15 D16)) else (if x2 < 0 then (pu_I X 149 [.ref 85, .int (-6)] D2 (fun y5 D6 => P y5 D6)) else (if 999 < x2 then (pu_I X 149 [.ref 85, .int (-6)] D2 (fun y13 D14 => P y13 D14)) else (if (D2.1 85 4) = 12 then (pu_I X 149 [.ref 85, .int (-7)] D2 (fun y11 D12 => P y11 D12)) else (pu_I X 176 [.ref 85, .int x1, .int x2] D2 (fun y9 D10 => P y9 D10))))))) :
    pu_I X 177 [.ref 85, .int x1, .int x2] D P := by
  refine pu_ent (E := [.ref 85, .int x1, .int x2]) pu_n177.1 pu_n177.2 pu_t177_0 rfl ?_
  refine pu_aload_n rfl ?_
  refine pu_iload_n rfl ?_
  refine pu_cv (vs := [.int x1]) (rest := []) pu_g152 ⟨pu_c85, by decide⟩ rfl rfl rfl rfl rfl (pu_CI (pu_I_imp H (fun y1 D2 H => ?_)))
  refine pu_ne0 pu_t177_14 (fun h3 => ?_) (fun h3 => ?_)
  · replace H := pu_f h3 H
    refine pu_iload_n rfl ?_
    refine pu_lt0 pu_t177_25 (fun h4 => ?_) (fun h4 => ?_)
    · replace H := pu_t h4 H
      refine pu_aload_n rfl ?_
      refine pu_bipush ?_
      refine pu_cv (vs := [.int (-6)]) (rest := []) pu_g149 ⟨pu_c85, by decide⟩ rfl rfl rfl rfl rfl (pu_CI (pu_I_imp H (fun y5 D6 H => ?_)))
      exact pu_iretI pu_rt177 H
    · replace H := pu_f h4 H
      refine pu_iload_n rfl ?_
      refine pu_sipush ?_
      refine pu_le_ pu_t177_32 (fun h7 => ?_) (fun h7 => ?_)
      · replace H := pu_f h7 H
        refine pu_aload_n rfl ?_
        refine pu_getI pu_k8_4 pu_c85 ?_
        refine pu_bipush ?_
        refine pu_ne_ pu_t177_50 (fun h8 => ?_) (fun h8 => ?_)
        · replace H := pu_f h8 H
          refine pu_aload_n rfl ?_
          refine pu_iload_n rfl ?_
          refine pu_iload_n rfl ?_
          refine pu_cv (vs := [.int x1, .int x2]) (rest := []) pu_g176 ⟨pu_c85, by decide⟩ rfl rfl rfl rfl rfl (pu_CI (pu_I_imp H (fun y9 D10 H => ?_)))
          exact pu_iretI pu_rt177 H
        · replace H := pu_t h8 H
          refine pu_aload_n rfl ?_
          refine pu_bipush ?_
          refine pu_cv (vs := [.int (-7)]) (rest := []) pu_g149 ⟨pu_c85, by decide⟩ rfl rfl rfl rfl rfl (pu_CI (pu_I_imp H (fun y11 D12 H => ?_)))
          refine pu_goto pu_t177_56 ?_
          exact pu_iretI pu_rt177 H
      · replace H := pu_t h7 H
        refine pu_aload_n rfl ?_
        refine pu_bipush ?_
        refine pu_cv (vs := [.int (-6)]) (rest := []) pu_g149 ⟨pu_c85, by decide⟩ rfl rfl rfl rfl rfl (pu_CI (pu_I_imp H (fun y13 D14 H => ?_)))
        exact pu_iretI pu_rt177 H
  · replace H := pu_t h3 H
    refine pu_aload_n rfl ?_
    refine pu_iconst ?_
    refine pu_cv (vs := [.int (-1)]) (rest := []) pu_g149 ⟨pu_c85, by decide⟩ rfl rfl rfl rfl rfl (pu_CI (pu_I_imp H (fun y15 D16 H => ?_)))
    exact pu_iretI pu_rt177 H
/-- LightAlongModel.shops(III)I -/
theorem pu_e178 {X : px_X} {x1 : Int32} {x2 : Int32} {x3 : Int32} {D : pu_D} {P : Int32 → pu_D → Prop} 
    (H : (px_in (D.1 85 5) 8 = true) ∧ (px_in ((pu_wi D 99 (D.1 85 5).toNatClampNeg x1).1 85 5) 8 = true) ∧ (px_in ((pu_wi (pu_wi D 99 (D.1 85 5).toNatClampNeg x1) 100 ((pu_wi D 99 (D.1 85 5).toNatClampNeg x1).1 85 5).toNatClampNeg x2).1 85 5) 8 = true) ∧ P ((pu_wi (pu_wi (pu_wi D 99 (D.1 85 5).toNatClampNeg x1) 100 ((pu_wi D 99 (D.1 85 5).toNatClampNeg x1).1 85 5).toNatClampNeg x2) 101 ((pu_wi (pu_wi D 99 (D.1 85 5).toNatClampNeg x1) 100 ((pu_wi D 99 (D.1 85 5).toNatClampNeg x1).1 85 5).toNatClampNeg x2).1 85 5).toNatClampNeg x3).1 85 5) (pu_wi (pu_wi (pu_wi (pu_wi D 99 (D.1 85 5).toNatClampNeg x1) 100 ((pu_wi D 99 (D.1 85 5).toNatClampNeg x1).1 85 5).toNatClampNeg x2) 101 ((pu_wi (pu_wi D 99 (D.1 85 5).toNatClampNeg x1) 100 ((pu_wi D 99 (D.1 85 5).toNatClampNeg x1).1 85 5).toNatClampNeg x2).1 85 5).toNatClampNeg x3) 85 5 (((pu_wi (pu_wi (pu_wi D 99 (D.1 85 5).toNatClampNeg x1) 100 ((pu_wi D 99 (D.1 85 5).toNatClampNeg x1).1 85 5).toNatClampNeg x2) 101 ((pu_wi (pu_wi D 99 (D.1 85 5).toNatClampNeg x1) 100 ((pu_wi D 99 (D.1 85 5).toNatClampNeg x1).1 85 5).toNatClampNeg x2).1 85 5).toNatClampNeg x3).1 85 5) + 1))) :
    pu_I X 178 [.ref 85, .int x1, .int x2, .int x3] D P := by
  refine pu_ent (E := [.ref 85, .int x1, .int x2, .int x3]) pu_n178.1 pu_n178.2 pu_t178_0 rfl ?_
  refine pu_aload_n rfl ?_
  refine pu_getR pu_kr8_25 pu_c85 pu_r85_25 ?_
  refine pu_aload_n rfl ?_
  refine pu_getI pu_k8_5 pu_c85 ?_
  refine pu_iload_n rfl ?_
  refine pu_ias pu_c99 pu_ln99 H.1 ?_
  replace H := H.2
  refine pu_aload_n rfl ?_
  refine pu_getR pu_kr8_26 pu_c85 pu_r85_26 ?_
  refine pu_aload_n rfl ?_
  refine pu_getI pu_k8_5 pu_c85 ?_
  refine pu_iload_n rfl ?_
  refine pu_ias pu_c100 pu_ln100 H.1 ?_
  replace H := H.2
  refine pu_aload_n rfl ?_
  refine pu_getR pu_kr8_27 pu_c85 pu_r85_27 ?_
  refine pu_aload_n rfl ?_
  refine pu_getI pu_k8_5 pu_c85 ?_
  refine pu_iload_n rfl ?_
  refine pu_ias pu_c101 pu_ln101 H.1 ?_
  replace H := H.2
  refine pu_aload_n rfl ?_
  refine pu_dup rfl ?_
  refine pu_getI pu_k8_5 pu_c85 ?_
  refine pu_dup_x1 rfl rfl ?_
  refine pu_iconst ?_
  refine pu_iadd ?_
  refine pu_putI pu_p8_5 pu_c85 ?_
  exact pu_iretI pu_rt178 H
/-- LightAlongModel.shop(III)I -/
theorem pu_e179 {X : px_X} {x1 : Int32} {x2 : Int32} {x3 : Int32} {D : pu_D} {P : Int32 → pu_D → Prop} 
    (H : pu_I X 152 [.ref 85, .int x1] D (fun y1 D2 => if y1 = 0 then (pu_I X 149 [.ref 85, .int (-1)] D2 (fun y20 D21 => P y20 D21)) else (if x2 < 1 then (pu_I X 149 [.ref 85, .int (-6)] D2 (fun y5 D6 => P y5 D6)) else (if 999 < x2 then (pu_I X 149 [.ref 85, .int (-6)] D2 (fun y8 D9 => P y8 D9)) else (pu_I X 156 [.ref 85, .int x3] D2 (fun y10 D11 => if y10 = 0 then (pu_I X 149 [.ref 85, .int (-6)] D11 (fun y18 D19 => P y18 D19)) else (if (D11.1 85 5) = 8 then (pu_I X 149 [.ref 85, .int (-7)] D11 (fun y16 D17 => P y16 D17)) else (pu_I X 178 [.ref 85, .int x1, .int x2, .int x3] D11 (fun y14 D15 => P y14 D15))))))))) :
    pu_I X 179 [.ref 85, .int x1, .int x2, .int x3] D P := by
  refine pu_ent (E := [.ref 85, .int x1, .int x2, .int x3]) pu_n179.1 pu_n179.2 pu_t179_0 rfl ?_
  refine pu_aload_n rfl ?_
  refine pu_iload_n rfl ?_
  refine pu_cv (vs := [.int x1]) (rest := []) pu_g152 ⟨pu_c85, by decide⟩ rfl rfl rfl rfl rfl (pu_CI (pu_I_imp H (fun y1 D2 H => ?_)))
  refine pu_ne0 pu_t179_14 (fun h3 => ?_) (fun h3 => ?_)
  · replace H := pu_f h3 H
    refine pu_iload_n rfl ?_
    refine pu_iconst ?_
    refine pu_lt_ pu_t179_34 (fun h4 => ?_) (fun h4 => ?_)
    · replace H := pu_t h4 H
      refine pu_aload_n rfl ?_
      refine pu_bipush ?_
      refine pu_cv (vs := [.int (-6)]) (rest := []) pu_g149 ⟨pu_c85, by decide⟩ rfl rfl rfl rfl rfl (pu_CI (pu_I_imp H (fun y5 D6 H => ?_)))
      exact pu_iretI pu_rt179 H
    · replace H := pu_f h4 H
      refine pu_iload_n rfl ?_
      refine pu_sipush ?_
      refine pu_gt_ pu_t179_34 (fun h7 => ?_) (fun h7 => ?_)
      · replace H := pu_t h7 H
        refine pu_aload_n rfl ?_
        refine pu_bipush ?_
        refine pu_cv (vs := [.int (-6)]) (rest := []) pu_g149 ⟨pu_c85, by decide⟩ rfl rfl rfl rfl rfl (pu_CI (pu_I_imp H (fun y8 D9 H => ?_)))
        exact pu_iretI pu_rt179 H
      · replace H := pu_f h7 H
        refine pu_aload_n rfl ?_
        refine pu_iload_n rfl ?_
        refine pu_cv (vs := [.int x3]) (rest := []) pu_g156 ⟨pu_c85, by decide⟩ rfl rfl rfl rfl rfl (pu_CI (pu_I_imp H (fun y10 D11 H => ?_)))
        refine pu_ne0 pu_t179_41 (fun h12 => ?_) (fun h12 => ?_)
        · replace H := pu_f h12 H
          refine pu_aload_n rfl ?_
          refine pu_getI pu_k8_5 pu_c85 ?_
          refine pu_bipush ?_
          refine pu_ne_ pu_t179_59 (fun h13 => ?_) (fun h13 => ?_)
          · replace H := pu_f h13 H
            refine pu_aload_n rfl ?_
            refine pu_iload_n rfl ?_
            refine pu_iload_n rfl ?_
            refine pu_iload_n rfl ?_
            refine pu_cv (vs := [.int x1, .int x2, .int x3]) (rest := []) pu_g178 ⟨pu_c85, by decide⟩ rfl rfl rfl rfl rfl (pu_CI (pu_I_imp H (fun y14 D15 H => ?_)))
            exact pu_iretI pu_rt179 H
          · replace H := pu_t h13 H
            refine pu_aload_n rfl ?_
            refine pu_bipush ?_
            refine pu_cv (vs := [.int (-7)]) (rest := []) pu_g149 ⟨pu_c85, by decide⟩ rfl rfl rfl rfl rfl (pu_CI (pu_I_imp H (fun y16 D17 H => ?_)))
            refine pu_goto pu_t179_66 ?_
            exact pu_iretI pu_rt179 H
        · replace H := pu_t h12 H
          refine pu_aload_n rfl ?_
          refine pu_bipush ?_
          refine pu_cv (vs := [.int (-6)]) (rest := []) pu_g149 ⟨pu_c85, by decide⟩ rfl rfl rfl rfl rfl (pu_CI (pu_I_imp H (fun y18 D19 H => ?_)))
          exact pu_iretI pu_rt179 H
  · replace H := pu_t h3 H
    refine pu_aload_n rfl ?_
    refine pu_iconst ?_
    refine pu_cv (vs := [.int (-1)]) (rest := []) pu_g149 ⟨pu_c85, by decide⟩ rfl rfl rfl rfl rfl (pu_CI (pu_I_imp H (fun y20 D21 H => ?_)))
    exact pu_iretI pu_rt179 H
/-- LightAlongModel.isAsked(II)Z -/
theorem pu_e180 {X : px_X} {x1 : Int32} {x2 : Int32} {D : pu_D} {P : Int32 → pu_D → Prop} 
    (H : if x1 = 0 then (if x2 < 0 then (P 0 D) else (if 999 < x2 then (P 0 D) else (P 1 D))) else (if x2 < 1 then (P 0 D) else (if x1 = 1 then (if 99 < x2 then (P 0 D) else (P 1 D)) else (if x1 = 2 then (if 12 < x2 then (P 0 D) else (P 1 D)) else (if x1 = 3 then (if 60 < x2 then (P 0 D) else (P 1 D)) else (P 0 D)))))) :
    pu_I X 180 [.ref 85, .int x1, .int x2] D P := by
  refine pu_ent (E := [.ref 85, .int x1, .int x2]) pu_n180.1 pu_n180.2 pu_t180_0 rfl ?_
  refine pu_iload_n rfl ?_
  refine pu_ne0 pu_t180_23 (fun h1 => ?_) (fun h1 => ?_)
  · replace H := pu_f h1 H
    refine pu_iload_n rfl ?_
    refine pu_iconst ?_
    refine pu_lt_ pu_t180_71 (fun h2 => ?_) (fun h2 => ?_)
    · replace H := pu_t h2 H
      refine pu_iconst ?_
      exact pu_iretZ pu_rt180 (by decide) H
    · replace H := pu_f h2 H
      refine pu_iload_n rfl ?_
      refine pu_iconst ?_
      refine pu_ne_ pu_t180_42 (fun h3 => ?_) (fun h3 => ?_)
      · replace H := pu_f h3 H
        refine pu_iload_n rfl ?_
        refine pu_iconst ?_
        refine pu_ne_ pu_t180_56 (fun h4 => ?_) (fun h4 => ?_)
        · replace H := pu_f h4 H
          refine pu_iload_n rfl ?_
          refine pu_iconst ?_
          refine pu_ne_ pu_t180_71 (fun h5 => ?_) (fun h5 => ?_)
          · replace H := pu_f h5 H
            refine pu_iconst ?_
            exact pu_iretZ pu_rt180 (by decide) H
          · replace H := pu_t h5 H
            refine pu_iload_n rfl ?_
            refine pu_bipush ?_
            refine pu_gt_ pu_t180_71 (fun h6 => ?_) (fun h6 => ?_)
            · replace H := pu_t h6 H
              refine pu_iconst ?_
              exact pu_iretZ pu_rt180 (by decide) H
            · replace H := pu_f h6 H
              refine pu_iconst ?_
              refine pu_goto pu_t180_72 ?_
              exact pu_iretZ pu_rt180 (by decide) H
        · replace H := pu_t h4 H
          refine pu_iload_n rfl ?_
          refine pu_bipush ?_
          refine pu_gt_ pu_t180_71 (fun h7 => ?_) (fun h7 => ?_)
          · replace H := pu_t h7 H
            refine pu_iconst ?_
            exact pu_iretZ pu_rt180 (by decide) H
          · replace H := pu_f h7 H
            refine pu_goto pu_t180_67 ?_
            refine pu_iconst ?_
            refine pu_goto pu_t180_72 ?_
            exact pu_iretZ pu_rt180 (by decide) H
      · replace H := pu_t h3 H
        refine pu_iload_n rfl ?_
        refine pu_bipush ?_
        refine pu_gt_ pu_t180_71 (fun h8 => ?_) (fun h8 => ?_)
        · replace H := pu_t h8 H
          refine pu_iconst ?_
          exact pu_iretZ pu_rt180 (by decide) H
        · replace H := pu_f h8 H
          refine pu_goto pu_t180_67 ?_
          refine pu_iconst ?_
          refine pu_goto pu_t180_72 ?_
          exact pu_iretZ pu_rt180 (by decide) H
  · replace H := pu_t h1 H
    refine pu_iload_n rfl ?_
    refine pu_lt0 pu_t180_19 (fun h9 => ?_) (fun h9 => ?_)
    · replace H := pu_t h9 H
      refine pu_iconst ?_
      refine pu_goto pu_t180_72 ?_
      exact pu_iretZ pu_rt180 (by decide) H
    · replace H := pu_f h9 H
      refine pu_iload_n rfl ?_
      refine pu_sipush ?_
      refine pu_gt_ pu_t180_19 (fun h10 => ?_) (fun h10 => ?_)
      · replace H := pu_t h10 H
        refine pu_iconst ?_
        refine pu_goto pu_t180_72 ?_
        exact pu_iretZ pu_rt180 (by decide) H
      · replace H := pu_f h10 H
        refine pu_iconst ?_
        refine pu_goto pu_t180_72 ?_
        exact pu_iretZ pu_rt180 (by decide) H
/-- LightAlongModel.asks(II)I -/
theorem pu_e181 {X : px_X} {x1 : Int32} {x2 : Int32} {D : pu_D} {P : Int32 → pu_D → Prop} 
    (H : if x1 = 0 then (if x1 = 0 then (P (D.1 85 7) (pu_wi D 85 7 x2)) else (if x1 = 1 then (P (D.1 85 7) (pu_wi D 85 8 x2)) else (if x1 = 2 then (P (D.1 85 7) (pu_wi D 85 9 x2)) else (P (D.1 85 7) (pu_wi D 85 10 x2))))) else (if x1 = 1 then (if x1 = 0 then (P (D.1 85 8) (pu_wi D 85 7 x2)) else (if x1 = 1 then (P (D.1 85 8) (pu_wi D 85 8 x2)) else (if x1 = 2 then (P (D.1 85 8) (pu_wi D 85 9 x2)) else (P (D.1 85 8) (pu_wi D 85 10 x2))))) else (if x1 = 2 then (if x1 = 0 then (P (D.1 85 9) (pu_wi D 85 7 x2)) else (if x1 = 1 then (P (D.1 85 9) (pu_wi D 85 8 x2)) else (if x1 = 2 then (P (D.1 85 9) (pu_wi D 85 9 x2)) else (P (D.1 85 9) (pu_wi D 85 10 x2))))) else (if x1 = 0 then (P (D.1 85 10) (pu_wi D 85 7 x2)) else (if x1 = 1 then (P (D.1 85 10) (pu_wi D 85 8 x2)) else (if x1 = 2 then (P (D.1 85 10) (pu_wi D 85 9 x2)) else (P (D.1 85 10) (pu_wi D 85 10 x2)))))))) :
    pu_I X 181 [.ref 85, .int x1, .int x2] D P := by
  refine pu_ent (E := [.ref 85, .int x1, .int x2, .null]) pu_n181.1 pu_n181.2 pu_t181_0 rfl ?_
  refine pu_iload_n rfl ?_
  refine pu_ne0 pu_t181_11 (fun h1 => ?_) (fun h1 => ?_)
  · replace H := pu_f h1 H
    refine pu_iload_n rfl ?_
    refine pu_iconst ?_
    refine pu_ne_ pu_t181_23 (fun h2 => ?_) (fun h2 => ?_)
    · replace H := pu_f h2 H
      refine pu_iload_n rfl ?_
      refine pu_iconst ?_
      refine pu_ne_ pu_t181_35 (fun h3 => ?_) (fun h3 => ?_)
      · replace H := pu_f h3 H
        refine pu_aload_n rfl ?_
        refine pu_getI pu_k8_10 pu_c85 ?_
        refine pu_istore_n (L' := [.ref 85, .int x1, .int x2, .int (D.1 85 10)]) (Or.inr rfl) rfl ?_
        refine pu_iload_n rfl ?_
        refine pu_ne0 pu_t181_52 (fun h4 => ?_) (fun h4 => ?_)
        · replace H := pu_f h4 H
          refine pu_iload_n rfl ?_
          refine pu_iconst ?_
          refine pu_ne_ pu_t181_65 (fun h5 => ?_) (fun h5 => ?_)
          · replace H := pu_f h5 H
            refine pu_iload_n rfl ?_
            refine pu_iconst ?_
            refine pu_ne_ pu_t181_78 (fun h6 => ?_) (fun h6 => ?_)
            · replace H := pu_f h6 H
              refine pu_aload_n rfl ?_
              refine pu_iload_n rfl ?_
              refine pu_putI pu_p8_10 pu_c85 ?_
              refine pu_iload_n rfl ?_
              exact pu_iretI pu_rt181 H
            · replace H := pu_t h6 H
              refine pu_aload_n rfl ?_
              refine pu_iload_n rfl ?_
              refine pu_putI pu_p8_9 pu_c85 ?_
              refine pu_goto pu_t181_83 ?_
              refine pu_iload_n rfl ?_
              exact pu_iretI pu_rt181 H
          · replace H := pu_t h5 H
            refine pu_aload_n rfl ?_
            refine pu_iload_n rfl ?_
            refine pu_putI pu_p8_8 pu_c85 ?_
            refine pu_goto pu_t181_83 ?_
            refine pu_iload_n rfl ?_
            exact pu_iretI pu_rt181 H
        · replace H := pu_t h4 H
          refine pu_aload_n rfl ?_
          refine pu_iload_n rfl ?_
          refine pu_putI pu_p8_7 pu_c85 ?_
          refine pu_goto pu_t181_83 ?_
          refine pu_iload_n rfl ?_
          exact pu_iretI pu_rt181 H
      · replace H := pu_t h3 H
        refine pu_aload_n rfl ?_
        refine pu_getI pu_k8_9 pu_c85 ?_
        refine pu_goto pu_t181_39 ?_
        refine pu_istore_n (L' := [.ref 85, .int x1, .int x2, .int (D.1 85 9)]) (Or.inr rfl) rfl ?_
        refine pu_iload_n rfl ?_
        refine pu_ne0 pu_t181_52 (fun h7 => ?_) (fun h7 => ?_)
        · replace H := pu_f h7 H
          refine pu_iload_n rfl ?_
          refine pu_iconst ?_
          refine pu_ne_ pu_t181_65 (fun h8 => ?_) (fun h8 => ?_)
          · replace H := pu_f h8 H
            refine pu_iload_n rfl ?_
            refine pu_iconst ?_
            refine pu_ne_ pu_t181_78 (fun h9 => ?_) (fun h9 => ?_)
            · replace H := pu_f h9 H
              refine pu_aload_n rfl ?_
              refine pu_iload_n rfl ?_
              refine pu_putI pu_p8_10 pu_c85 ?_
              refine pu_iload_n rfl ?_
              exact pu_iretI pu_rt181 H
            · replace H := pu_t h9 H
              refine pu_aload_n rfl ?_
              refine pu_iload_n rfl ?_
              refine pu_putI pu_p8_9 pu_c85 ?_
              refine pu_goto pu_t181_83 ?_
              refine pu_iload_n rfl ?_
              exact pu_iretI pu_rt181 H
          · replace H := pu_t h8 H
            refine pu_aload_n rfl ?_
            refine pu_iload_n rfl ?_
            refine pu_putI pu_p8_8 pu_c85 ?_
            refine pu_goto pu_t181_83 ?_
            refine pu_iload_n rfl ?_
            exact pu_iretI pu_rt181 H
        · replace H := pu_t h7 H
          refine pu_aload_n rfl ?_
          refine pu_iload_n rfl ?_
          refine pu_putI pu_p8_7 pu_c85 ?_
          refine pu_goto pu_t181_83 ?_
          refine pu_iload_n rfl ?_
          exact pu_iretI pu_rt181 H
    · replace H := pu_t h2 H
      refine pu_aload_n rfl ?_
      refine pu_getI pu_k8_8 pu_c85 ?_
      refine pu_goto pu_t181_39 ?_
      refine pu_istore_n (L' := [.ref 85, .int x1, .int x2, .int (D.1 85 8)]) (Or.inr rfl) rfl ?_
      refine pu_iload_n rfl ?_
      refine pu_ne0 pu_t181_52 (fun h10 => ?_) (fun h10 => ?_)
      · replace H := pu_f h10 H
        refine pu_iload_n rfl ?_
        refine pu_iconst ?_
        refine pu_ne_ pu_t181_65 (fun h11 => ?_) (fun h11 => ?_)
        · replace H := pu_f h11 H
          refine pu_iload_n rfl ?_
          refine pu_iconst ?_
          refine pu_ne_ pu_t181_78 (fun h12 => ?_) (fun h12 => ?_)
          · replace H := pu_f h12 H
            refine pu_aload_n rfl ?_
            refine pu_iload_n rfl ?_
            refine pu_putI pu_p8_10 pu_c85 ?_
            refine pu_iload_n rfl ?_
            exact pu_iretI pu_rt181 H
          · replace H := pu_t h12 H
            refine pu_aload_n rfl ?_
            refine pu_iload_n rfl ?_
            refine pu_putI pu_p8_9 pu_c85 ?_
            refine pu_goto pu_t181_83 ?_
            refine pu_iload_n rfl ?_
            exact pu_iretI pu_rt181 H
        · replace H := pu_t h11 H
          refine pu_aload_n rfl ?_
          refine pu_iload_n rfl ?_
          refine pu_putI pu_p8_8 pu_c85 ?_
          refine pu_goto pu_t181_83 ?_
          refine pu_iload_n rfl ?_
          exact pu_iretI pu_rt181 H
      · replace H := pu_t h10 H
        refine pu_aload_n rfl ?_
        refine pu_iload_n rfl ?_
        refine pu_putI pu_p8_7 pu_c85 ?_
        refine pu_goto pu_t181_83 ?_
        refine pu_iload_n rfl ?_
        exact pu_iretI pu_rt181 H
  · replace H := pu_t h1 H
    refine pu_aload_n rfl ?_
    refine pu_getI pu_k8_7 pu_c85 ?_
    refine pu_goto pu_t181_39 ?_
    refine pu_istore_n (L' := [.ref 85, .int x1, .int x2, .int (D.1 85 7)]) (Or.inr rfl) rfl ?_
    refine pu_iload_n rfl ?_
    refine pu_ne0 pu_t181_52 (fun h13 => ?_) (fun h13 => ?_)
    · replace H := pu_f h13 H
      refine pu_iload_n rfl ?_
      refine pu_iconst ?_
      refine pu_ne_ pu_t181_65 (fun h14 => ?_) (fun h14 => ?_)
      · replace H := pu_f h14 H
        refine pu_iload_n rfl ?_
        refine pu_iconst ?_
        refine pu_ne_ pu_t181_78 (fun h15 => ?_) (fun h15 => ?_)
        · replace H := pu_f h15 H
          refine pu_aload_n rfl ?_
          refine pu_iload_n rfl ?_
          refine pu_putI pu_p8_10 pu_c85 ?_
          refine pu_iload_n rfl ?_
          exact pu_iretI pu_rt181 H
        · replace H := pu_t h15 H
          refine pu_aload_n rfl ?_
          refine pu_iload_n rfl ?_
          refine pu_putI pu_p8_9 pu_c85 ?_
          refine pu_goto pu_t181_83 ?_
          refine pu_iload_n rfl ?_
          exact pu_iretI pu_rt181 H
      · replace H := pu_t h14 H
        refine pu_aload_n rfl ?_
        refine pu_iload_n rfl ?_
        refine pu_putI pu_p8_8 pu_c85 ?_
        refine pu_goto pu_t181_83 ?_
        refine pu_iload_n rfl ?_
        exact pu_iretI pu_rt181 H
    · replace H := pu_t h13 H
      refine pu_aload_n rfl ?_
      refine pu_iload_n rfl ?_
      refine pu_putI pu_p8_7 pu_c85 ?_
      refine pu_goto pu_t181_83 ?_
      refine pu_iload_n rfl ?_
      exact pu_iretI pu_rt181 H
/-- LightAlongModel.ask(II)I -/
theorem pu_e182 {X : px_X} {x1 : Int32} {x2 : Int32} {D : pu_D} {P : Int32 → pu_D → Prop} 
    (H : pu_I X 180 [.ref 85, .int x1, .int x2] D (fun y1 D2 => if y1 = 0 then (pu_I X 149 [.ref 85, .int (-6)] D2 (fun y4 D5 => P y4 D5)) else (pu_I X 181 [.ref 85, .int x1, .int x2] D2 (fun y6 D7 => P y6 D7)))) :
    pu_I X 182 [.ref 85, .int x1, .int x2] D P := by
  refine pu_ent (E := [.ref 85, .int x1, .int x2]) pu_n182.1 pu_n182.2 pu_t182_0 rfl ?_
  refine pu_aload_n rfl ?_
  refine pu_iload_n rfl ?_
  refine pu_iload_n rfl ?_
  refine pu_cv (vs := [.int x1, .int x2]) (rest := []) pu_g180 ⟨pu_c85, by decide⟩ rfl rfl rfl rfl rfl (pu_CI (pu_I_imp H (fun y1 D2 H => ?_)))
  refine pu_eq0 pu_t182_18 (fun h3 => ?_) (fun h3 => ?_)
  · replace H := pu_t h3 H
    refine pu_aload_n rfl ?_
    refine pu_bipush ?_
    refine pu_cv (vs := [.int (-6)]) (rest := []) pu_g149 ⟨pu_c85, by decide⟩ rfl rfl rfl rfl rfl (pu_CI (pu_I_imp H (fun y4 D5 H => ?_)))
    exact pu_iretI pu_rt182 H
  · replace H := pu_f h3 H
    refine pu_aload_n rfl ?_
    refine pu_iload_n rfl ?_
    refine pu_iload_n rfl ?_
    refine pu_cv (vs := [.int x1, .int x2]) (rest := []) pu_g181 ⟨pu_c85, by decide⟩ rfl rfl rfl rfl rfl (pu_CI (pu_I_imp H (fun y6 D7 H => ?_)))
    refine pu_goto pu_t182_24 ?_
    exact pu_iretI pu_rt182 H
/-- LightAlongModel.wrong(I)Z -/
theorem pu_e183 {X : px_X} {x1 : Int32} {D : pu_D} {P : Int32 → pu_D → Prop} 
    (H : P 0 (pu_wi D 85 41 x1)) :
    pu_I X 183 [.ref 85, .int x1] D P := by
  refine pu_ent (E := [.ref 85, .int x1]) pu_n183.1 pu_n183.2 pu_t183_0 rfl ?_
  refine pu_aload_n rfl ?_
  refine pu_iload_n rfl ?_
  refine pu_putI pu_p8_41 pu_c85 ?_
  refine pu_iconst ?_
  exact pu_iretZ pu_rt183 (by decide) H
/-- LightAlongModel.word()I -/
def pu_h184_9 (X : px_X) (x1 : Int32) (x2 : Int32) (x3 : Int32) (D : pu_D) (P : Int32 → pu_D → Prop) : Prop := ∀ z4 : Value, z4.category = 1 → ∀ z5 : Value, z5.category = 1 → pu_W X 184 (0, 0) px_c184_9 [.ref 85, .int x1, .int x2, .int x3, z4, z5] [] D (pu_qi P)
def pu_h184_24 (X : px_X) (x1 : Int32) (x2 : Int32) (x3 : Int32) (x4 : Int32) (x5 : Int32) (D : pu_D) (P : Int32 → pu_D → Prop) : Prop := pu_W X 184 (0, 0) px_c184_24 [.ref 85, .int x1, .int x2, .int x3, .int x4, .int x5] [] D (pu_qi P)
def pu_h184_106 (X : px_X) (x1 : Int32) (x2 : Int32) (x3 : Int32) (D : pu_D) (P : Int32 → pu_D → Prop) : Prop := ∀ z4 : Value, z4.category = 1 → ∀ z5 : Value, z5.category = 1 → pu_W X 184 (0, 0) px_c184_106 [.ref 85, .int x1, .int x2, .int x3, z4, z5] [] D (pu_qi P)
theorem pu_u184_9 {X : px_X} {x1 : Int32} {x2 : Int32} {x3 : Int32} {D : pu_D} {P : Int32 → pu_D → Prop} 
    (H : if x3 < 11 then (pu_h184_24 X x1 x2 x3 (D.1 85 38) x1 D P) else (P (-1) (pu_wi D 85 41 x2))) :
    pu_h184_9 X x1 x2 x3 D P := by
  intro z4 hz4 z5 hz5
  refine pu_iload_n rfl ?_
  refine pu_bipush ?_
  refine pu_ge_ pu_t184_130 (fun h1 => ?_) (fun h1 => ?_)
  · replace H := pu_f h1 H
    refine pu_aload_n rfl ?_
    refine pu_iload_n rfl ?_
    refine pu_putI pu_p8_41 pu_c85 ?_
    refine pu_iconst ?_
    exact pu_iretI pu_rt184 H
  · replace H := pu_t h1 H
    refine pu_aload_n rfl ?_
    refine pu_getI pu_k8_38 pu_c85 ?_
    refine pu_istore (L' := [.ref 85, .int x1, .int x2, .int x3, .int (D.1 85 38), z5]) (Or.inr rfl) rfl ?_
    refine pu_iload_n rfl ?_
    refine pu_istore (L' := [.ref 85, .int x1, .int x2, .int x3, .int (D.1 85 38), .int x1]) (Or.inr rfl) rfl ?_
    exact H 
theorem pu_u184_24 {X : px_X} {x1 : Int32} {x2 : Int32} {x3 : Int32} {x4 : Int32} {x5 : Int32} {D : pu_D} {P : Int32 → pu_D → Prop} 
    (H : (px_in x5 70 = true) ∧ if (D.1 110 x5.toNatClampNeg) = 0 then ((px_in x5 70 = true) ∧ if (D.1 110 x5.toNatClampNeg) = 0 then (P x3 (pu_wi D 85 38 x4)) else (if x2 < x4 then (pu_h184_106 X x1 x4 x3 D P) else (pu_h184_106 X x1 x2 x3 D P))) else (if x4 < (D.1 85 39) then ((px_in ((D.1 85 37) + x4) 960 = true) ∧ (px_in x5 70 = true) ∧ if (Int64.toInt32 (D.2 108 ((D.1 85 37) + x4).toNatClampNeg)) = (D.1 110 x5.toNatClampNeg) then (pu_h184_24 X x1 x2 x3 (x4 + 1) (x5 + 1) D P) else ((px_in x5 70 = true) ∧ if (D.1 110 x5.toNatClampNeg) = 0 then (P x3 (pu_wi D 85 38 x4)) else (if x2 < x4 then (pu_h184_106 X x1 x4 x3 D P) else (pu_h184_106 X x1 x2 x3 D P)))) else ((px_in x5 70 = true) ∧ if (D.1 110 x5.toNatClampNeg) = 0 then (P x3 (pu_wi D 85 38 x4)) else (if x2 < x4 then (pu_h184_106 X x1 x4 x3 D P) else (pu_h184_106 X x1 x2 x3 D P))))) :
    pu_h184_24 X x1 x2 x3 x4 x5 D P := by
  refine pu_aload_n rfl ?_
  refine pu_getR pu_kr8_36 pu_c85 pu_r85_36 ?_
  refine pu_iload rfl ?_
  refine pu_ial pu_c110 pu_ln110 H.1 ?_
  replace H := H.2
  refine pu_eq0 pu_t184_75 (fun h2 => ?_) (fun h2 => ?_)
  · replace H := pu_t h2 H
    refine pu_aload_n rfl ?_
    refine pu_getR pu_kr8_36 pu_c85 pu_r85_36 ?_
    refine pu_iload rfl ?_
    refine pu_ial pu_c110 pu_ln110 H.1 ?_
    replace H := H.2
    refine pu_ne0 pu_t184_93 (fun h3 => ?_) (fun h3 => ?_)
    · replace H := pu_f h3 H
      refine pu_iload rfl ?_
      refine pu_iload_n rfl ?_
      refine pu_le_ pu_t184_104 (fun h4 => ?_) (fun h4 => ?_)
      · replace H := pu_f h4 H
        refine pu_iload_n rfl ?_
        refine pu_istore_n (L' := [.ref 85, .int x1, .int x2, .int x3, .int x4, .int x5]) (Or.inr rfl) rfl ?_
        exact H _ rfl _ rfl
      · replace H := pu_t h4 H
        refine pu_iload rfl ?_
        refine pu_goto pu_t184_105 ?_
        refine pu_istore_n (L' := [.ref 85, .int x1, .int x4, .int x3, .int x4, .int x5]) (Or.inr rfl) rfl ?_
        exact H _ rfl _ rfl
    · replace H := pu_t h3 H
      refine pu_aload_n rfl ?_
      refine pu_iload rfl ?_
      refine pu_putI pu_p8_38 pu_c85 ?_
      refine pu_iload_n rfl ?_
      exact pu_iretI pu_rt184 H
  · replace H := pu_f h2 H
    refine pu_iload rfl ?_
    refine pu_aload_n rfl ?_
    refine pu_getI pu_k8_39 pu_c85 ?_
    refine pu_ge_ pu_t184_75 (fun h5 => ?_) (fun h5 => ?_)
    · replace H := pu_f h5 H
      refine pu_aload_n rfl ?_
      refine pu_getR pu_kr8_36 pu_c85 pu_r85_36 ?_
      refine pu_iload rfl ?_
      refine pu_ial pu_c110 pu_ln110 H.1 ?_
      replace H := H.2
      refine pu_ne0 pu_t184_93 (fun h6 => ?_) (fun h6 => ?_)
      · replace H := pu_f h6 H
        refine pu_iload rfl ?_
        refine pu_iload_n rfl ?_
        refine pu_le_ pu_t184_104 (fun h7 => ?_) (fun h7 => ?_)
        · replace H := pu_f h7 H
          refine pu_iload_n rfl ?_
          refine pu_istore_n (L' := [.ref 85, .int x1, .int x2, .int x3, .int x4, .int x5]) (Or.inr rfl) rfl ?_
          exact H _ rfl _ rfl
        · replace H := pu_t h7 H
          refine pu_iload rfl ?_
          refine pu_goto pu_t184_105 ?_
          refine pu_istore_n (L' := [.ref 85, .int x1, .int x4, .int x3, .int x4, .int x5]) (Or.inr rfl) rfl ?_
          exact H _ rfl _ rfl
      · replace H := pu_t h6 H
        refine pu_aload_n rfl ?_
        refine pu_iload rfl ?_
        refine pu_putI pu_p8_38 pu_c85 ?_
        refine pu_iload_n rfl ?_
        exact pu_iretI pu_rt184 H
    · replace H := pu_t h5 H
      refine pu_aload_n rfl ?_
      refine pu_getR pu_kr8_34 pu_c85 pu_r85_34 ?_
      refine pu_aload_n rfl ?_
      refine pu_getI pu_k8_37 pu_c85 ?_
      refine pu_iload rfl ?_
      refine pu_iadd ?_
      refine pu_lal pu_c108 pu_ln108 H.1 ?_
      replace H := H.2
      refine pu_l2i ?_
      refine pu_aload_n rfl ?_
      refine pu_getR pu_kr8_36 pu_c85 pu_r85_36 ?_
      refine pu_iload rfl ?_
      refine pu_ial pu_c110 pu_ln110 H.1 ?_
      replace H := H.2
      refine pu_ne_ pu_t184_75 (fun h8 => ?_) (fun h8 => ?_)
      · replace H := pu_f h8 H
        refine pu_aload_n rfl ?_
        refine pu_getR pu_kr8_36 pu_c85 pu_r85_36 ?_
        refine pu_iload rfl ?_
        refine pu_ial pu_c110 pu_ln110 H.1 ?_
        replace H := H.2
        refine pu_ne0 pu_t184_93 (fun h9 => ?_) (fun h9 => ?_)
        · replace H := pu_f h9 H
          refine pu_iload rfl ?_
          refine pu_iload_n rfl ?_
          refine pu_le_ pu_t184_104 (fun h10 => ?_) (fun h10 => ?_)
          · replace H := pu_f h10 H
            refine pu_iload_n rfl ?_
            refine pu_istore_n (L' := [.ref 85, .int x1, .int x2, .int x3, .int x4, .int x5]) (Or.inr rfl) rfl ?_
            exact H _ rfl _ rfl
          · replace H := pu_t h10 H
            refine pu_iload rfl ?_
            refine pu_goto pu_t184_105 ?_
            refine pu_istore_n (L' := [.ref 85, .int x1, .int x4, .int x3, .int x4, .int x5]) (Or.inr rfl) rfl ?_
            exact H _ rfl _ rfl
        · replace H := pu_t h9 H
          refine pu_aload_n rfl ?_
          refine pu_iload rfl ?_
          refine pu_putI pu_p8_38 pu_c85 ?_
          refine pu_iload_n rfl ?_
          exact pu_iretI pu_rt184 H
      · replace H := pu_t h8 H
        refine pu_iinc (L' := [.ref 85, .int x1, .int x2, .int x3, .int (x4 + 1), .int x5]) rfl (Or.inr rfl) rfl ?_
        refine pu_iinc (L' := [.ref 85, .int x1, .int x2, .int x3, .int (x4 + 1), .int (x5 + 1)]) rfl (Or.inr rfl) rfl ?_
        refine pu_goto pu_t184_24 ?_
        exact H 
theorem pu_u184_106 {X : px_X} {x1 : Int32} {x2 : Int32} {x3 : Int32} {D : pu_D} {P : Int32 → pu_D → Prop} 
    (H : (px_in x1 70 = true) ∧ if (D.1 110 x1.toNatClampNeg) = 0 then (pu_h184_9 X (x1 + 1) x2 (x3 + 1) D P) else (pu_h184_106 X (x1 + 1) x2 x3 D P)) :
    pu_h184_106 X x1 x2 x3 D P := by
  intro z4 hz4 z5 hz5
  refine pu_aload_n rfl ?_
  refine pu_getR pu_kr8_36 pu_c85 pu_r85_36 ?_
  refine pu_iload_n rfl ?_
  refine pu_ial pu_c110 pu_ln110 H.1 ?_
  replace H := H.2
  refine pu_eq0 pu_t184_121 (fun h11 => ?_) (fun h11 => ?_)
  · replace H := pu_t h11 H
    refine pu_iinc (L' := [.ref 85, .int (x1 + 1), .int x2, .int x3, z4, z5]) rfl (Or.inr rfl) rfl ?_
    refine pu_iinc (L' := [.ref 85, .int (x1 + 1), .int x2, .int (x3 + 1), z4, z5]) rfl (Or.inr rfl) rfl ?_
    refine pu_goto pu_t184_9 ?_
    exact H _ hz4 _ hz5
  · replace H := pu_f h11 H
    refine pu_iinc (L' := [.ref 85, .int (x1 + 1), .int x2, .int x3, z4, z5]) rfl (Or.inr rfl) rfl ?_
    refine pu_goto pu_t184_106 ?_
    exact H _ hz4 _ hz5
theorem pu_e184 {X : px_X}  {D : pu_D} {P : Int32 → pu_D → Prop} 
    (H : pu_h184_9 X 0 (D.1 85 38) 0 D P) :
    pu_I X 184 [.ref 85] D P := by
  refine pu_ent (E := [.ref 85, .null, .null, .null, .null, .null]) pu_n184.1 pu_n184.2 pu_t184_0 rfl ?_
  refine pu_iconst ?_
  refine pu_istore_n (L' := [.ref 85, .int 0, .null, .null, .null, .null]) (Or.inr rfl) rfl ?_
  refine pu_aload_n rfl ?_
  refine pu_getI pu_k8_38 pu_c85 ?_
  refine pu_istore_n (L' := [.ref 85, .int 0, .int (D.1 85 38), .null, .null, .null]) (Or.inr rfl) rfl ?_
  refine pu_iconst ?_
  refine pu_istore_n (L' := [.ref 85, .int 0, .int (D.1 85 38), .int 0, .null, .null]) (Or.inr rfl) rfl ?_
  exact H _ rfl _ rfl
/-- LightAlongModel.isDigit()Z -/
theorem pu_e185 {X : px_X}  {D : pu_D} {P : Int32 → pu_D → Prop} 
    (H : if (D.1 85 38) < (D.1 85 39) then ((px_in ((D.1 85 37) + (D.1 85 38)) 960 = true) ∧ if (Int64.toInt32 (D.2 108 ((D.1 85 37) + (D.1 85 38)).toNatClampNeg)) < 48 then (P 0 D) else ((px_in ((D.1 85 37) + (D.1 85 38)) 960 = true) ∧ if 57 < (Int64.toInt32 (D.2 108 ((D.1 85 37) + (D.1 85 38)).toNatClampNeg)) then (P 0 D) else (P 1 D))) else (P 0 D)) :
    pu_I X 185 [.ref 85] D P := by
  refine pu_ent (E := [.ref 85]) pu_n185.1 pu_n185.2 pu_t185_0 rfl ?_
  refine pu_aload_n rfl ?_
  refine pu_getI pu_k8_38 pu_c85 ?_
  refine pu_aload_n rfl ?_
  refine pu_getI pu_k8_39 pu_c85 ?_
  refine pu_ge_ pu_t185_55 (fun h1 => ?_) (fun h1 => ?_)
  · replace H := pu_f h1 H
    refine pu_iconst ?_
    exact pu_iretZ pu_rt185 (by decide) H
  · replace H := pu_t h1 H
    refine pu_aload_n rfl ?_
    refine pu_getR pu_kr8_34 pu_c85 pu_r85_34 ?_
    refine pu_aload_n rfl ?_
    refine pu_getI pu_k8_37 pu_c85 ?_
    refine pu_aload_n rfl ?_
    refine pu_getI pu_k8_38 pu_c85 ?_
    refine pu_iadd ?_
    refine pu_lal pu_c108 pu_ln108 H.1 ?_
    replace H := H.2
    refine pu_l2i ?_
    refine pu_bipush ?_
    refine pu_lt_ pu_t185_55 (fun h2 => ?_) (fun h2 => ?_)
    · replace H := pu_t h2 H
      refine pu_iconst ?_
      exact pu_iretZ pu_rt185 (by decide) H
    · replace H := pu_f h2 H
      refine pu_aload_n rfl ?_
      refine pu_getR pu_kr8_34 pu_c85 pu_r85_34 ?_
      refine pu_aload_n rfl ?_
      refine pu_getI pu_k8_37 pu_c85 ?_
      refine pu_aload_n rfl ?_
      refine pu_getI pu_k8_38 pu_c85 ?_
      refine pu_iadd ?_
      refine pu_lal pu_c108 pu_ln108 H.1 ?_
      replace H := H.2
      refine pu_l2i ?_
      refine pu_bipush ?_
      refine pu_gt_ pu_t185_55 (fun h3 => ?_) (fun h3 => ?_)
      · replace H := pu_t h3 H
        refine pu_iconst ?_
        exact pu_iretZ pu_rt185 (by decide) H
      · replace H := pu_f h3 H
        refine pu_iconst ?_
        refine pu_goto pu_t185_56 ?_
        exact pu_iretZ pu_rt185 (by decide) H
/-- LightAlongModel.number(II)Z -/
def pu_h186_29 (X : px_X) (x1 : Int32) (x2 : Int32) (x3 : Int32) (x4 : Int32) (D : pu_D) (P : Int32 → pu_D → Prop) : Prop := pu_W X 186 (0, 0) px_c186_29 [.ref 85, .int x1, .int x2, .int x3, .int x4] [] D (pu_qi P)
theorem pu_u186_29 {X : px_X} {x1 : Int32} {x2 : Int32} {x3 : Int32} {x4 : Int32} {D : pu_D} {P : Int32 → pu_D → Prop} 
    (H : if x4 < 3 then (pu_I X 185 [.ref 85] D (fun y15 D16 => if y15 = 0 then (if (D16.1 85 40) < x1 then (pu_I X 183 [.ref 85, .int x3] D16 (fun y19 D20 => if y19 = 0 then (P 0 D20) else (P 1 D20))) else (if x2 < (D16.1 85 40) then (pu_I X 183 [.ref 85, .int x3] D16 (fun y23 D24 => if y23 = 0 then (P 0 D24) else (P 1 D24))) else (P 1 D16))) else ((px_in ((D16.1 85 37) + (D16.1 85 38)) 960 = true) ∧ pu_h186_29 X x1 x2 x3 (x4 + 1) (pu_wi (pu_wi D16 85 40 (((10 * (D16.1 85 40)) + (Int64.toInt32 (D16.2 108 ((D16.1 85 37) + (D16.1 85 38)).toNatClampNeg))) - 48)) 85 38 (((pu_wi D16 85 40 (((10 * (D16.1 85 40)) + (Int64.toInt32 (D16.2 108 ((D16.1 85 37) + (D16.1 85 38)).toNatClampNeg))) - 48)).1 85 38) + 1)) P))) else (if (D.1 85 40) < x1 then (pu_I X 183 [.ref 85, .int x3] D (fun y8 D9 => if y8 = 0 then (P 0 D9) else (P 1 D9))) else (if x2 < (D.1 85 40) then (pu_I X 183 [.ref 85, .int x3] D (fun y12 D13 => if y12 = 0 then (P 0 D13) else (P 1 D13))) else (P 1 D)))) :
    pu_h186_29 X x1 x2 x3 x4 D P := by
  refine pu_iload rfl ?_
  refine pu_iconst ?_
  refine pu_ge_ pu_t186_88 (fun h6 => ?_) (fun h6 => ?_)
  · replace H := pu_f h6 H
    refine pu_aload_n rfl ?_
    refine pu_getI pu_k8_40 pu_c85 ?_
    refine pu_iload_n rfl ?_
    refine pu_lt_ pu_t186_104 (fun h7 => ?_) (fun h7 => ?_)
    · replace H := pu_t h7 H
      refine pu_aload_n rfl ?_
      refine pu_iload_n rfl ?_
      refine pu_cv (vs := [.int x3]) (rest := []) pu_g183 ⟨pu_c85, by decide⟩ rfl rfl rfl rfl rfl (pu_CI (pu_I_imp H (fun y8 D9 H => ?_)))
      refine pu_eq0 pu_t186_116 (fun h10 => ?_) (fun h10 => ?_)
      · replace H := pu_t h10 H
        refine pu_iconst ?_
        exact pu_iretZ pu_rt186 (by decide) H
      · replace H := pu_f h10 H
        refine pu_iconst ?_
        refine pu_goto pu_t186_117 ?_
        exact pu_iretZ pu_rt186 (by decide) H
    · replace H := pu_f h7 H
      refine pu_aload_n rfl ?_
      refine pu_getI pu_k8_40 pu_c85 ?_
      refine pu_iload_n rfl ?_
      refine pu_le_ pu_t186_112 (fun h11 => ?_) (fun h11 => ?_)
      · replace H := pu_f h11 H
        refine pu_iconst ?_
        refine pu_goto pu_t186_117 ?_
        exact pu_iretZ pu_rt186 (by decide) H
      · replace H := pu_t h11 H
        refine pu_aload_n rfl ?_
        refine pu_iload_n rfl ?_
        refine pu_cv (vs := [.int x3]) (rest := []) pu_g183 ⟨pu_c85, by decide⟩ rfl rfl rfl rfl rfl (pu_CI (pu_I_imp H (fun y12 D13 H => ?_)))
        refine pu_eq0 pu_t186_116 (fun h14 => ?_) (fun h14 => ?_)
        · replace H := pu_t h14 H
          refine pu_iconst ?_
          exact pu_iretZ pu_rt186 (by decide) H
        · replace H := pu_f h14 H
          refine pu_iconst ?_
          refine pu_goto pu_t186_117 ?_
          exact pu_iretZ pu_rt186 (by decide) H
  · replace H := pu_t h6 H
    refine pu_aload_n rfl ?_
    refine pu_cv (vs := []) (rest := []) pu_g185 ⟨pu_c85, by decide⟩ rfl rfl rfl rfl rfl (pu_CI (pu_I_imp H (fun y15 D16 H => ?_)))
    refine pu_eq0 pu_t186_88 (fun h17 => ?_) (fun h17 => ?_)
    · replace H := pu_t h17 H
      refine pu_aload_n rfl ?_
      refine pu_getI pu_k8_40 pu_c85 ?_
      refine pu_iload_n rfl ?_
      refine pu_lt_ pu_t186_104 (fun h18 => ?_) (fun h18 => ?_)
      · replace H := pu_t h18 H
        refine pu_aload_n rfl ?_
        refine pu_iload_n rfl ?_
        refine pu_cv (vs := [.int x3]) (rest := []) pu_g183 ⟨pu_c85, by decide⟩ rfl rfl rfl rfl rfl (pu_CI (pu_I_imp H (fun y19 D20 H => ?_)))
        refine pu_eq0 pu_t186_116 (fun h21 => ?_) (fun h21 => ?_)
        · replace H := pu_t h21 H
          refine pu_iconst ?_
          exact pu_iretZ pu_rt186 (by decide) H
        · replace H := pu_f h21 H
          refine pu_iconst ?_
          refine pu_goto pu_t186_117 ?_
          exact pu_iretZ pu_rt186 (by decide) H
      · replace H := pu_f h18 H
        refine pu_aload_n rfl ?_
        refine pu_getI pu_k8_40 pu_c85 ?_
        refine pu_iload_n rfl ?_
        refine pu_le_ pu_t186_112 (fun h22 => ?_) (fun h22 => ?_)
        · replace H := pu_f h22 H
          refine pu_iconst ?_
          refine pu_goto pu_t186_117 ?_
          exact pu_iretZ pu_rt186 (by decide) H
        · replace H := pu_t h22 H
          refine pu_aload_n rfl ?_
          refine pu_iload_n rfl ?_
          refine pu_cv (vs := [.int x3]) (rest := []) pu_g183 ⟨pu_c85, by decide⟩ rfl rfl rfl rfl rfl (pu_CI (pu_I_imp H (fun y23 D24 H => ?_)))
          refine pu_eq0 pu_t186_116 (fun h25 => ?_) (fun h25 => ?_)
          · replace H := pu_t h25 H
            refine pu_iconst ?_
            exact pu_iretZ pu_rt186 (by decide) H
          · replace H := pu_f h25 H
            refine pu_iconst ?_
            refine pu_goto pu_t186_117 ?_
            exact pu_iretZ pu_rt186 (by decide) H
    · replace H := pu_f h17 H
      refine pu_aload_n rfl ?_
      refine pu_bipush ?_
      refine pu_aload_n rfl ?_
      refine pu_getI pu_k8_40 pu_c85 ?_
      refine pu_imul ?_
      refine pu_aload_n rfl ?_
      refine pu_getR pu_kr8_34 pu_c85 pu_r85_34 ?_
      refine pu_aload_n rfl ?_
      refine pu_getI pu_k8_37 pu_c85 ?_
      refine pu_aload_n rfl ?_
      refine pu_getI pu_k8_38 pu_c85 ?_
      refine pu_iadd ?_
      refine pu_lal pu_c108 pu_ln108 H.1 ?_
      replace H := H.2
      refine pu_l2i ?_
      refine pu_iadd ?_
      refine pu_bipush ?_
      refine pu_isub ?_
      refine pu_putI pu_p8_40 pu_c85 ?_
      refine pu_aload_n rfl ?_
      refine pu_dup rfl ?_
      refine pu_getI pu_k8_38 pu_c85 ?_
      refine pu_iconst ?_
      refine pu_iadd ?_
      refine pu_putI pu_p8_38 pu_c85 ?_
      refine pu_iinc (L' := [.ref 85, .int x1, .int x2, .int x3, .int (x4 + 1)]) rfl (Or.inr rfl) rfl ?_
      refine pu_goto pu_t186_29 ?_
      exact H 
theorem pu_e186 {X : px_X} {x1 : Int32} {x2 : Int32} {D : pu_D} {P : Int32 → pu_D → Prop} 
    (H : pu_I X 185 [.ref 85] (pu_wi D 85 40 0) (fun y1 D2 => if y1 = 0 then (pu_I X 183 [.ref 85, .int (D2.1 85 38)] D2 (fun y4 D5 => (y4 &&& 1 = y4) ∧ P y4 D5)) else (pu_h186_29 X x1 x2 (D.1 85 38) 0 D2 P))) :
    pu_I X 186 [.ref 85, .int x1, .int x2] D P := by
  refine pu_ent (E := [.ref 85, .int x1, .int x2, .null, .null]) pu_n186.1 pu_n186.2 pu_t186_0 rfl ?_
  refine pu_aload_n rfl ?_
  refine pu_getI pu_k8_38 pu_c85 ?_
  refine pu_istore_n (L' := [.ref 85, .int x1, .int x2, .int (D.1 85 38), .null]) (Or.inr rfl) rfl ?_
  refine pu_aload_n rfl ?_
  refine pu_iconst ?_
  refine pu_putI pu_p8_40 pu_c85 ?_
  refine pu_aload_n rfl ?_
  refine pu_cv (vs := []) (rest := []) pu_g185 ⟨pu_c85, by decide⟩ rfl rfl rfl rfl rfl (pu_CI (pu_I_imp H (fun y1 D2 H => ?_)))
  refine pu_ne0 pu_t186_26 (fun h3 => ?_) (fun h3 => ?_)
  · replace H := pu_f h3 H
    refine pu_iconst ?_
    refine pu_istore (L' := [.ref 85, .int x1, .int x2, .int (D.1 85 38), .int 0]) (Or.inr rfl) rfl ?_
    exact H 
  · replace H := pu_t h3 H
    refine pu_aload_n rfl ?_
    refine pu_aload_n rfl ?_
    refine pu_getI pu_k8_38 pu_c85 ?_
    refine pu_cv (vs := [.int (D2.1 85 38)]) (rest := []) pu_g183 ⟨pu_c85, by decide⟩ rfl rfl rfl rfl rfl (pu_CI (pu_I_imp H (fun y4 D5 H => ?_)))
    exact pu_iretZ pu_rt186 H.1 H.2
/-- LightAlongModel.next(II)Z -/
theorem pu_e187 {X : px_X} {x1 : Int32} {x2 : Int32} {D : pu_D} {P : Int32 → pu_D → Prop} 
    (H : if (D.1 85 38) < (D.1 85 39) then ((px_in ((D.1 85 37) + (D.1 85 38)) 960 = true) ∧ if (Int64.toInt32 (D.2 108 ((D.1 85 37) + (D.1 85 38)).toNatClampNeg)) = 32 then (pu_I X 186 [.ref 85, .int x1, .int x2] (pu_wi D 85 38 ((D.1 85 38) + 1)) (fun y5 D6 => (y5 &&& 1 = y5) ∧ P y5 D6)) else (pu_I X 183 [.ref 85, .int (D.1 85 38)] D (fun y7 D8 => (y7 &&& 1 = y7) ∧ P y7 D8))) else (pu_I X 183 [.ref 85, .int (D.1 85 38)] D (fun y2 D3 => (y2 &&& 1 = y2) ∧ P y2 D3))) :
    pu_I X 187 [.ref 85, .int x1, .int x2] D P := by
  refine pu_ent (E := [.ref 85, .int x1, .int x2]) pu_n187.1 pu_n187.2 pu_t187_0 rfl ?_
  refine pu_aload_n rfl ?_
  refine pu_getI pu_k8_38 pu_c85 ?_
  refine pu_aload_n rfl ?_
  refine pu_getI pu_k8_39 pu_c85 ?_
  refine pu_ge_ pu_t187_31 (fun h1 => ?_) (fun h1 => ?_)
  · replace H := pu_f h1 H
    refine pu_aload_n rfl ?_
    refine pu_aload_n rfl ?_
    refine pu_getI pu_k8_38 pu_c85 ?_
    refine pu_cv (vs := [.int (D.1 85 38)]) (rest := []) pu_g183 ⟨pu_c85, by decide⟩ rfl rfl rfl rfl rfl (pu_CI (pu_I_imp H (fun y2 D3 H => ?_)))
    exact pu_iretZ pu_rt187 H.1 H.2
  · replace H := pu_t h1 H
    refine pu_aload_n rfl ?_
    refine pu_getR pu_kr8_34 pu_c85 pu_r85_34 ?_
    refine pu_aload_n rfl ?_
    refine pu_getI pu_k8_37 pu_c85 ?_
    refine pu_aload_n rfl ?_
    refine pu_getI pu_k8_38 pu_c85 ?_
    refine pu_iadd ?_
    refine pu_lal pu_c108 pu_ln108 H.1 ?_
    replace H := H.2
    refine pu_l2i ?_
    refine pu_bipush ?_
    refine pu_eq_ pu_t187_40 (fun h4 => ?_) (fun h4 => ?_)
    · replace H := pu_t h4 H
      refine pu_aload_n rfl ?_
      refine pu_dup rfl ?_
      refine pu_getI pu_k8_38 pu_c85 ?_
      refine pu_iconst ?_
      refine pu_iadd ?_
      refine pu_putI pu_p8_38 pu_c85 ?_
      refine pu_aload_n rfl ?_
      refine pu_iload_n rfl ?_
      refine pu_iload_n rfl ?_
      refine pu_cv (vs := [.int x1, .int x2]) (rest := []) pu_g186 ⟨pu_c85, by decide⟩ rfl rfl rfl rfl rfl (pu_CI (pu_I_imp H (fun y5 D6 H => ?_)))
      exact pu_iretZ pu_rt187 H.1 H.2
    · replace H := pu_f h4 H
      refine pu_aload_n rfl ?_
      refine pu_aload_n rfl ?_
      refine pu_getI pu_k8_38 pu_c85 ?_
      refine pu_cv (vs := [.int (D.1 85 38)]) (rest := []) pu_g183 ⟨pu_c85, by decide⟩ rfl rfl rfl rfl rfl (pu_CI (pu_I_imp H (fun y7 D8 H => ?_)))
      exact pu_iretZ pu_rt187 H.1 H.2
/-- LightAlongModel.isWordFull(I)Z -/
theorem pu_e188 {X : px_X} {x1 : Int32} {D : pu_D} {P : Int32 → pu_D → Prop} 
    (H : if x1 = 4 then (if (D.1 85 0) = 6 then (P 1 D) else (P 0 D)) else (if x1 = 5 then (if (D.1 85 1) = 9 then (P 1 D) else (P 0 D)) else (if 5 < x1 then (if x1 < 9 then (pu_I X 173 [.ref 85, .int (x1 - 6)] D (fun y13 D14 => (y13 &&& 1 = y13) ∧ P y13 D14)) else (if x1 = 9 then (if (D.1 85 4) = 12 then (P 1 D) else (P 0 D)) else (if x1 = 10 then (if (D.1 85 5) = 8 then (P 1 D) else (P 0 D)) else (P 0 D)))) else (if x1 = 9 then (if (D.1 85 4) = 12 then (P 1 D) else (P 0 D)) else (if x1 = 10 then (if (D.1 85 5) = 8 then (P 1 D) else (P 0 D)) else (P 0 D)))))) :
    pu_I X 188 [.ref 85, .int x1] D P := by
  refine pu_ent (E := [.ref 85, .int x1]) pu_n188.1 pu_n188.2 pu_t188_0 rfl ?_
  refine pu_iload_n rfl ?_
  refine pu_iconst ?_
  refine pu_ne_ pu_t188_22 (fun h1 => ?_) (fun h1 => ?_)
  · replace H := pu_f h1 H
    refine pu_iload_n rfl ?_
    refine pu_iconst ?_
    refine pu_ne_ pu_t188_44 (fun h2 => ?_) (fun h2 => ?_)
    · replace H := pu_f h2 H
      refine pu_iload_n rfl ?_
      refine pu_iconst ?_
      refine pu_le_ pu_t188_66 (fun h3 => ?_) (fun h3 => ?_)
      · replace H := pu_f h3 H
        refine pu_iload_n rfl ?_
        refine pu_bipush ?_
        refine pu_ne_ pu_t188_89 (fun h4 => ?_) (fun h4 => ?_)
        · replace H := pu_f h4 H
          refine pu_iload_n rfl ?_
          refine pu_bipush ?_
          refine pu_ne_ pu_t188_108 (fun h5 => ?_) (fun h5 => ?_)
          · replace H := pu_f h5 H
            refine pu_iconst ?_
            exact pu_iretZ pu_rt188 (by decide) H
          · replace H := pu_t h5 H
            refine pu_aload_n rfl ?_
            refine pu_getI pu_k8_5 pu_c85 ?_
            refine pu_bipush ?_
            refine pu_ne_ pu_t188_108 (fun h6 => ?_) (fun h6 => ?_)
            · replace H := pu_f h6 H
              refine pu_iconst ?_
              exact pu_iretZ pu_rt188 (by decide) H
            · replace H := pu_t h6 H
              refine pu_iconst ?_
              refine pu_goto pu_t188_109 ?_
              exact pu_iretZ pu_rt188 (by decide) H
        · replace H := pu_t h4 H
          refine pu_aload_n rfl ?_
          refine pu_getI pu_k8_4 pu_c85 ?_
          refine pu_bipush ?_
          refine pu_ne_ pu_t188_85 (fun h7 => ?_) (fun h7 => ?_)
          · replace H := pu_f h7 H
            refine pu_iconst ?_
            refine pu_goto pu_t188_109 ?_
            exact pu_iretZ pu_rt188 (by decide) H
          · replace H := pu_t h7 H
            refine pu_iconst ?_
            refine pu_goto pu_t188_109 ?_
            exact pu_iretZ pu_rt188 (by decide) H
      · replace H := pu_t h3 H
        refine pu_iload_n rfl ?_
        refine pu_bipush ?_
        refine pu_ge_ pu_t188_66 (fun h8 => ?_) (fun h8 => ?_)
        · replace H := pu_f h8 H
          refine pu_iload_n rfl ?_
          refine pu_bipush ?_
          refine pu_ne_ pu_t188_89 (fun h9 => ?_) (fun h9 => ?_)
          · replace H := pu_f h9 H
            refine pu_iload_n rfl ?_
            refine pu_bipush ?_
            refine pu_ne_ pu_t188_108 (fun h10 => ?_) (fun h10 => ?_)
            · replace H := pu_f h10 H
              refine pu_iconst ?_
              exact pu_iretZ pu_rt188 (by decide) H
            · replace H := pu_t h10 H
              refine pu_aload_n rfl ?_
              refine pu_getI pu_k8_5 pu_c85 ?_
              refine pu_bipush ?_
              refine pu_ne_ pu_t188_108 (fun h11 => ?_) (fun h11 => ?_)
              · replace H := pu_f h11 H
                refine pu_iconst ?_
                exact pu_iretZ pu_rt188 (by decide) H
              · replace H := pu_t h11 H
                refine pu_iconst ?_
                refine pu_goto pu_t188_109 ?_
                exact pu_iretZ pu_rt188 (by decide) H
          · replace H := pu_t h9 H
            refine pu_aload_n rfl ?_
            refine pu_getI pu_k8_4 pu_c85 ?_
            refine pu_bipush ?_
            refine pu_ne_ pu_t188_85 (fun h12 => ?_) (fun h12 => ?_)
            · replace H := pu_f h12 H
              refine pu_iconst ?_
              refine pu_goto pu_t188_109 ?_
              exact pu_iretZ pu_rt188 (by decide) H
            · replace H := pu_t h12 H
              refine pu_iconst ?_
              refine pu_goto pu_t188_109 ?_
              exact pu_iretZ pu_rt188 (by decide) H
        · replace H := pu_t h8 H
          refine pu_aload_n rfl ?_
          refine pu_iload_n rfl ?_
          refine pu_bipush ?_
          refine pu_isub ?_
          refine pu_cv (vs := [.int (x1 - 6)]) (rest := []) pu_g173 ⟨pu_c85, by decide⟩ rfl rfl rfl rfl rfl (pu_CI (pu_I_imp H (fun y13 D14 H => ?_)))
          refine pu_goto pu_t188_109 ?_
          exact pu_iretZ pu_rt188 H.1 H.2
    · replace H := pu_t h2 H
      refine pu_aload_n rfl ?_
      refine pu_getI pu_k8_1 pu_c85 ?_
      refine pu_bipush ?_
      refine pu_ne_ pu_t188_40 (fun h15 => ?_) (fun h15 => ?_)
      · replace H := pu_f h15 H
        refine pu_iconst ?_
        refine pu_goto pu_t188_109 ?_
        exact pu_iretZ pu_rt188 (by decide) H
      · replace H := pu_t h15 H
        refine pu_iconst ?_
        refine pu_goto pu_t188_109 ?_
        exact pu_iretZ pu_rt188 (by decide) H
  · replace H := pu_t h1 H
    refine pu_aload_n rfl ?_
    refine pu_getI pu_k8_0 pu_c85 ?_
    refine pu_bipush ?_
    refine pu_ne_ pu_t188_18 (fun h16 => ?_) (fun h16 => ?_)
    · replace H := pu_f h16 H
      refine pu_iconst ?_
      refine pu_goto pu_t188_109 ?_
      exact pu_iretZ pu_rt188 (by decide) H
    · replace H := pu_t h16 H
      refine pu_iconst ?_
      refine pu_goto pu_t188_109 ?_
      exact pu_iretZ pu_rt188 (by decide) H
/-- LightAlongModel.isWordAt(I)Z -/
def pu_h189_4 (X : px_X) (x1 : Int32) (x2 : Int32) (x3 : Int32) (D : pu_D) (P : Int32 → pu_D → Prop) : Prop := pu_W X 189 (0, 0) px_c189_4 [.ref 85, .int x1, .int x2, .int x3] [] D (pu_qi P)
def pu_h189_37 (X : px_X) (x2 : Int32) (x3 : Int32) (D : pu_D) (P : Int32 → pu_D → Prop) : Prop := ∀ z1 : Value, z1.category = 1 → pu_W X 189 (0, 0) px_c189_37 [.ref 85, z1, .int x2, .int x3] [] D (pu_qi P)
theorem pu_u189_4 {X : px_X} {x1 : Int32} {x2 : Int32} {x3 : Int32} {D : pu_D} {P : Int32 → pu_D → Prop} 
    (H : if x3 < x1 then ((px_in x2 70 = true) ∧ if (D.1 110 x2.toNatClampNeg) = 0 then (pu_h189_4 X x1 (x2 + 1) (x3 + 1) D P) else (pu_h189_4 X x1 (x2 + 1) (x3 + 0) D P)) else (pu_h189_37 X x2 (D.1 85 38) D P)) :
    pu_h189_4 X x1 x2 x3 D P := by
  refine pu_iload_n rfl ?_
  refine pu_iload_n rfl ?_
  refine pu_ge_ pu_t189_32 (fun h1 => ?_) (fun h1 => ?_)
  · replace H := pu_f h1 H
    refine pu_aload_n rfl ?_
    refine pu_getI pu_k8_38 pu_c85 ?_
    refine pu_istore_n (L' := [.ref 85, .int x1, .int x2, .int (D.1 85 38)]) (Or.inr rfl) rfl ?_
    exact H _ rfl
  · replace H := pu_t h1 H
    refine pu_iload_n rfl ?_
    refine pu_aload_n rfl ?_
    refine pu_getR pu_kr8_36 pu_c85 pu_r85_36 ?_
    refine pu_iload_n rfl ?_
    refine pu_ial pu_c110 pu_ln110 H.1 ?_
    replace H := H.2
    refine pu_ne0 pu_t189_23 (fun h2 => ?_) (fun h2 => ?_)
    · replace H := pu_f h2 H
      refine pu_iconst ?_
      refine pu_iadd ?_
      refine pu_istore_n (L' := [.ref 85, .int x1, .int x2, .int (x3 + 0)]) (Or.inr rfl) rfl ?_
      refine pu_iinc (L' := [.ref 85, .int x1, .int (x2 + 1), .int (x3 + 0)]) rfl (Or.inr rfl) rfl ?_
      refine pu_goto pu_t189_4 ?_
      exact H 
    · replace H := pu_t h2 H
      refine pu_iconst ?_
      refine pu_goto pu_t189_24 ?_
      refine pu_iadd ?_
      refine pu_istore_n (L' := [.ref 85, .int x1, .int x2, .int (x3 + 1)]) (Or.inr rfl) rfl ?_
      refine pu_iinc (L' := [.ref 85, .int x1, .int (x2 + 1), .int (x3 + 1)]) rfl (Or.inr rfl) rfl ?_
      refine pu_goto pu_t189_4 ?_
      exact H 
theorem pu_u189_37 {X : px_X} {x2 : Int32} {x3 : Int32} {D : pu_D} {P : Int32 → pu_D → Prop} 
    (H : (px_in x2 70 = true) ∧ if 32 < (D.1 110 x2.toNatClampNeg) then (if x3 < (D.1 85 39) then ((px_in ((D.1 85 37) + x3) 960 = true) ∧ (px_in x2 70 = true) ∧ if (Int64.toInt32 (D.2 108 ((D.1 85 37) + x3).toNatClampNeg)) = (D.1 110 x2.toNatClampNeg) then (pu_h189_37 X (x2 + 1) (x3 + 1) D P) else ((px_in x2 70 = true) ∧ if 32 < (D.1 110 x2.toNatClampNeg) then (P 0 D) else (P 1 D))) else ((px_in x2 70 = true) ∧ if 32 < (D.1 110 x2.toNatClampNeg) then (P 0 D) else (P 1 D))) else ((px_in x2 70 = true) ∧ if 32 < (D.1 110 x2.toNatClampNeg) then (P 0 D) else (P 1 D))) :
    pu_h189_37 X x2 x3 D P := by
  intro z1 hz1
  refine pu_aload_n rfl ?_
  refine pu_getR pu_kr8_36 pu_c85 pu_r85_36 ?_
  refine pu_iload_n rfl ?_
  refine pu_ial pu_c110 pu_ln110 H.1 ?_
  replace H := H.2
  refine pu_bipush ?_
  refine pu_le_ pu_t189_86 (fun h3 => ?_) (fun h3 => ?_)
  · replace H := pu_f h3 H
    refine pu_aload_n rfl ?_
    refine pu_getR pu_kr8_36 pu_c85 pu_r85_36 ?_
    refine pu_iload_n rfl ?_
    refine pu_ial pu_c110 pu_ln110 H.1 ?_
    replace H := H.2
    refine pu_bipush ?_
    refine pu_gt_ pu_t189_101 (fun h4 => ?_) (fun h4 => ?_)
    · replace H := pu_t h4 H
      refine pu_iconst ?_
      exact pu_iretZ pu_rt189 (by decide) H
    · replace H := pu_f h4 H
      refine pu_iconst ?_
      refine pu_goto pu_t189_102 ?_
      exact pu_iretZ pu_rt189 (by decide) H
  · replace H := pu_t h3 H
    refine pu_iload_n rfl ?_
    refine pu_aload_n rfl ?_
    refine pu_getI pu_k8_39 pu_c85 ?_
    refine pu_ge_ pu_t189_86 (fun h5 => ?_) (fun h5 => ?_)
    · replace H := pu_f h5 H
      refine pu_aload_n rfl ?_
      refine pu_getR pu_kr8_36 pu_c85 pu_r85_36 ?_
      refine pu_iload_n rfl ?_
      refine pu_ial pu_c110 pu_ln110 H.1 ?_
      replace H := H.2
      refine pu_bipush ?_
      refine pu_gt_ pu_t189_101 (fun h6 => ?_) (fun h6 => ?_)
      · replace H := pu_t h6 H
        refine pu_iconst ?_
        exact pu_iretZ pu_rt189 (by decide) H
      · replace H := pu_f h6 H
        refine pu_iconst ?_
        refine pu_goto pu_t189_102 ?_
        exact pu_iretZ pu_rt189 (by decide) H
    · replace H := pu_t h5 H
      refine pu_aload_n rfl ?_
      refine pu_getR pu_kr8_34 pu_c85 pu_r85_34 ?_
      refine pu_aload_n rfl ?_
      refine pu_getI pu_k8_37 pu_c85 ?_
      refine pu_iload_n rfl ?_
      refine pu_iadd ?_
      refine pu_lal pu_c108 pu_ln108 H.1 ?_
      replace H := H.2
      refine pu_l2i ?_
      refine pu_aload_n rfl ?_
      refine pu_getR pu_kr8_36 pu_c85 pu_r85_36 ?_
      refine pu_iload_n rfl ?_
      refine pu_ial pu_c110 pu_ln110 H.1 ?_
      replace H := H.2
      refine pu_ne_ pu_t189_86 (fun h7 => ?_) (fun h7 => ?_)
      · replace H := pu_f h7 H
        refine pu_aload_n rfl ?_
        refine pu_getR pu_kr8_36 pu_c85 pu_r85_36 ?_
        refine pu_iload_n rfl ?_
        refine pu_ial pu_c110 pu_ln110 H.1 ?_
        replace H := H.2
        refine pu_bipush ?_
        refine pu_gt_ pu_t189_101 (fun h8 => ?_) (fun h8 => ?_)
        · replace H := pu_t h8 H
          refine pu_iconst ?_
          exact pu_iretZ pu_rt189 (by decide) H
        · replace H := pu_f h8 H
          refine pu_iconst ?_
          refine pu_goto pu_t189_102 ?_
          exact pu_iretZ pu_rt189 (by decide) H
      · replace H := pu_t h7 H
        refine pu_iinc (L' := [.ref 85, z1, .int x2, .int (x3 + 1)]) rfl (Or.inr rfl) rfl ?_
        refine pu_iinc (L' := [.ref 85, z1, .int (x2 + 1), .int (x3 + 1)]) rfl (Or.inr hz1) rfl ?_
        refine pu_goto pu_t189_37 ?_
        exact H _ hz1
theorem pu_e189 {X : px_X} {x1 : Int32} {D : pu_D} {P : Int32 → pu_D → Prop} 
    (H : pu_h189_4 X x1 0 0 D P) :
    pu_I X 189 [.ref 85, .int x1] D P := by
  refine pu_ent (E := [.ref 85, .int x1, .null, .null]) pu_n189.1 pu_n189.2 pu_t189_0 rfl ?_
  refine pu_iconst ?_
  refine pu_istore_n (L' := [.ref 85, .int x1, .int 0, .null]) (Or.inr rfl) rfl ?_
  refine pu_iconst ?_
  refine pu_istore_n (L' := [.ref 85, .int x1, .int 0, .int 0]) (Or.inr rfl) rfl ?_
  exact H 
/-- LightAlongModel.item()Z -/
def pu_h190_2 (X : px_X) (x1 : Int32) (D : pu_D) (P : Int32 → pu_D → Prop) : Prop := ∀ z2 : Value, z2.category = 1 → ∀ z3 : Value, z3.category = 1 → ∀ z4 : Value, z4.category = 1 → ∀ z5 : Value, z5.category = 1 → ∀ z6 : Value, z6.category = 1 → pu_W X 190 (0, 0) px_c190_2 [.ref 85, .int x1, z2, z3, z4, z5, z6] [] D (pu_qi P)
def pu_h190_294 (X : px_X) (x2 : Int32) (x4 : Int32) (D : pu_D) (P : Int32 → pu_D → Prop) : Prop := ∀ z1 : Value, z1.category = 1 → ∀ z3 : Value, z3.category = 1 → ∀ z5 : Value, z5.category = 1 → ∀ z6 : Value, z6.category = 1 → pu_W X 190 (0, 0) px_c190_294 [.ref 85, z1, .int x2, z3, .int x4, z5, z6] [] D (pu_qi P)
def pu_h190_33 (X : px_X) (x1 : Int32) (D : pu_D) (P : Int32 → pu_D → Prop) : Prop := ∀ z2 : Value, z2.category = 1 → ∀ z3 : Value, z3.category = 1 → ∀ z4 : Value, z4.category = 1 → ∀ z5 : Value, z5.category = 1 → ∀ z6 : Value, z6.category = 1 → pu_W X 190 (0, 0) px_c190_33 [.ref 85, .int x1, z2, z3, z4, z5, z6] [] D (pu_qi P)
theorem pu_u190_2 {X : px_X} {x1 : Int32} {D : pu_D} {P : Int32 → pu_D → Prop} 
    (H : if x1 < 11 then (pu_I X 189 [.ref 85, .int x1] D (fun y229 D230 => if y229 = 0 then (pu_h190_33 X x1 D230 P) else (pu_I X 188 [.ref 85, .int x1] D230 (fun y232 D233 => if y232 = 0 then (pu_h190_33 X x1 D233 P) else (pu_I X 183 [.ref 85, .int (D233.1 85 38)] D233 (fun y235 D236 => (y235 &&& 1 = y235) ∧ P y235 D236)))))) else (pu_I X 184 [.ref 85] D (fun y2 D3 => if y2 = (-1) then (P 0 D3) else (if y2 < 4 then (if y2 = 0 then (if y2 = 0 then (pu_I X 186 [.ref 85, .int 0, .int 999] D3 (fun y224 D225 => if y224 = 0 then (P 0 D225) else (pu_I X 181 [.ref 85, .int y2, .int (D225.1 85 40)] D225 (fun y227 D228 => P 1 D228)))) else (if y2 = 1 then (pu_I X 186 [.ref 85, .int 0, .int 99] D3 (fun y219 D220 => if y219 = 0 then (P 0 D220) else (pu_I X 181 [.ref 85, .int y2, .int (D220.1 85 40)] D220 (fun y222 D223 => P 1 D223)))) else (if y2 = 2 then (pu_I X 186 [.ref 85, .int 0, .int 12] D3 (fun y214 D215 => if y214 = 0 then (P 0 D215) else (pu_I X 181 [.ref 85, .int y2, .int (D215.1 85 40)] D215 (fun y217 D218 => P 1 D218)))) else (pu_I X 186 [.ref 85, .int 0, .int 60] D3 (fun y209 D210 => if y209 = 0 then (P 0 D210) else (pu_I X 181 [.ref 85, .int y2, .int (D210.1 85 40)] D210 (fun y212 D213 => P 1 D213))))))) else (if y2 = 0 then (pu_I X 186 [.ref 85, .int 1, .int 999] D3 (fun y201 D202 => if y201 = 0 then (P 0 D202) else (pu_I X 181 [.ref 85, .int y2, .int (D202.1 85 40)] D202 (fun y204 D205 => P 1 D205)))) else (if y2 = 1 then (pu_I X 186 [.ref 85, .int 1, .int 99] D3 (fun y196 D197 => if y196 = 0 then (P 0 D197) else (pu_I X 181 [.ref 85, .int y2, .int (D197.1 85 40)] D197 (fun y199 D200 => P 1 D200)))) else (if y2 = 2 then (pu_I X 186 [.ref 85, .int 1, .int 12] D3 (fun y191 D192 => if y191 = 0 then (P 0 D192) else (pu_I X 181 [.ref 85, .int y2, .int (D192.1 85 40)] D192 (fun y194 D195 => P 1 D195)))) else (pu_I X 186 [.ref 85, .int 1, .int 60] D3 (fun y186 D187 => if y186 = 0 then (P 0 D187) else (pu_I X 181 [.ref 85, .int y2, .int (D187.1 85 40)] D187 (fun y189 D190 => P 1 D190)))))))) else (if y2 = 4 then (if (D3.1 85 0) = 6 then (pu_I X 183 [.ref 85, .int (D.1 85 38)] D3 (fun y180 D181 => (y180 &&& 1 = y180) ∧ P y180 D181)) else (if y2 = 4 then (if y2 = 4 then (pu_I X 186 [.ref 85, .int 1, .int 12] D3 (fun y173 D174 => if y173 = 0 then (P 0 D174) else (if y2 < 6 then (pu_h190_294 X y2 (D174.1 85 40) D174 P) else (if y2 < 9 then (pu_I X 174 [.ref 85, .int (y2 - 6), .int (D174.1 85 40)] D174 (fun y178 D179 => P 1 D179)) else (pu_h190_294 X y2 (D174.1 85 40) D174 P))))) else (pu_I X 186 [.ref 85, .int 1, .int 119] D3 (fun y166 D167 => if y166 = 0 then (P 0 D167) else (if y2 < 6 then (pu_h190_294 X y2 (D167.1 85 40) D167 P) else (if y2 < 9 then (pu_I X 174 [.ref 85, .int (y2 - 6), .int (D167.1 85 40)] D167 (fun y171 D172 => P 1 D172)) else (pu_h190_294 X y2 (D167.1 85 40) D167 P)))))) else (if y2 = 4 then (pu_I X 186 [.ref 85, .int 0, .int 12] D3 (fun y158 D159 => if y158 = 0 then (P 0 D159) else (if y2 < 6 then (pu_h190_294 X y2 (D159.1 85 40) D159 P) else (if y2 < 9 then (pu_I X 174 [.ref 85, .int (y2 - 6), .int (D159.1 85 40)] D159 (fun y163 D164 => P 1 D164)) else (pu_h190_294 X y2 (D159.1 85 40) D159 P))))) else (pu_I X 186 [.ref 85, .int 0, .int 119] D3 (fun y151 D152 => if y151 = 0 then (P 0 D152) else (if y2 < 6 then (pu_h190_294 X y2 (D152.1 85 40) D152 P) else (if y2 < 9 then (pu_I X 174 [.ref 85, .int (y2 - 6), .int (D152.1 85 40)] D152 (fun y156 D157 => P 1 D157)) else (pu_h190_294 X y2 (D152.1 85 40) D152 P)))))))) else (if y2 = 5 then (if (D3.1 85 1) = 9 then (pu_I X 183 [.ref 85, .int (D.1 85 38)] D3 (fun y146 D147 => (y146 &&& 1 = y146) ∧ P y146 D147)) else (if y2 = 4 then (if y2 = 4 then (pu_I X 186 [.ref 85, .int 1, .int 12] D3 (fun y139 D140 => if y139 = 0 then (P 0 D140) else (if y2 < 6 then (pu_h190_294 X y2 (D140.1 85 40) D140 P) else (if y2 < 9 then (pu_I X 174 [.ref 85, .int (y2 - 6), .int (D140.1 85 40)] D140 (fun y144 D145 => P 1 D145)) else (pu_h190_294 X y2 (D140.1 85 40) D140 P))))) else (pu_I X 186 [.ref 85, .int 1, .int 119] D3 (fun y132 D133 => if y132 = 0 then (P 0 D133) else (if y2 < 6 then (pu_h190_294 X y2 (D133.1 85 40) D133 P) else (if y2 < 9 then (pu_I X 174 [.ref 85, .int (y2 - 6), .int (D133.1 85 40)] D133 (fun y137 D138 => P 1 D138)) else (pu_h190_294 X y2 (D133.1 85 40) D133 P)))))) else (if y2 = 4 then (pu_I X 186 [.ref 85, .int 0, .int 12] D3 (fun y124 D125 => if y124 = 0 then (P 0 D125) else (if y2 < 6 then (pu_h190_294 X y2 (D125.1 85 40) D125 P) else (if y2 < 9 then (pu_I X 174 [.ref 85, .int (y2 - 6), .int (D125.1 85 40)] D125 (fun y129 D130 => P 1 D130)) else (pu_h190_294 X y2 (D125.1 85 40) D125 P))))) else (pu_I X 186 [.ref 85, .int 0, .int 119] D3 (fun y117 D118 => if y117 = 0 then (P 0 D118) else (if y2 < 6 then (pu_h190_294 X y2 (D118.1 85 40) D118 P) else (if y2 < 9 then (pu_I X 174 [.ref 85, .int (y2 - 6), .int (D118.1 85 40)] D118 (fun y122 D123 => P 1 D123)) else (pu_h190_294 X y2 (D118.1 85 40) D118 P)))))))) else (if y2 < 9 then (pu_I X 173 [.ref 85, .int (y2 - 6)] D3 (fun y78 D79 => if y78 = 0 then (if y2 = 4 then (if y2 = 4 then (pu_I X 186 [.ref 85, .int 1, .int 12] D79 (fun y105 D106 => if y105 = 0 then (P 0 D106) else (if y2 < 6 then (pu_h190_294 X y2 (D106.1 85 40) D106 P) else (if y2 < 9 then (pu_I X 174 [.ref 85, .int (y2 - 6), .int (D106.1 85 40)] D106 (fun y110 D111 => P 1 D111)) else (pu_h190_294 X y2 (D106.1 85 40) D106 P))))) else (pu_I X 186 [.ref 85, .int 1, .int 119] D79 (fun y98 D99 => if y98 = 0 then (P 0 D99) else (if y2 < 6 then (pu_h190_294 X y2 (D99.1 85 40) D99 P) else (if y2 < 9 then (pu_I X 174 [.ref 85, .int (y2 - 6), .int (D99.1 85 40)] D99 (fun y103 D104 => P 1 D104)) else (pu_h190_294 X y2 (D99.1 85 40) D99 P)))))) else (if y2 = 4 then (pu_I X 186 [.ref 85, .int 0, .int 12] D79 (fun y90 D91 => if y90 = 0 then (P 0 D91) else (if y2 < 6 then (pu_h190_294 X y2 (D91.1 85 40) D91 P) else (if y2 < 9 then (pu_I X 174 [.ref 85, .int (y2 - 6), .int (D91.1 85 40)] D91 (fun y95 D96 => P 1 D96)) else (pu_h190_294 X y2 (D91.1 85 40) D91 P))))) else (pu_I X 186 [.ref 85, .int 0, .int 119] D79 (fun y83 D84 => if y83 = 0 then (P 0 D84) else (if y2 < 6 then (pu_h190_294 X y2 (D84.1 85 40) D84 P) else (if y2 < 9 then (pu_I X 174 [.ref 85, .int (y2 - 6), .int (D84.1 85 40)] D84 (fun y88 D89 => P 1 D89)) else (pu_h190_294 X y2 (D84.1 85 40) D84 P))))))) else (pu_I X 183 [.ref 85, .int (D.1 85 38)] D79 (fun y112 D113 => (y112 &&& 1 = y112) ∧ P y112 D113)))) else (if y2 = 9 then (if (D3.1 85 4) = 12 then (pu_I X 183 [.ref 85, .int (D.1 85 38)] D3 (fun y76 D77 => (y76 &&& 1 = y76) ∧ P y76 D77)) else (if y2 = 4 then (if y2 = 4 then (pu_I X 186 [.ref 85, .int 1, .int 12] D3 (fun y69 D70 => if y69 = 0 then (P 0 D70) else (if y2 < 6 then (pu_h190_294 X y2 (D70.1 85 40) D70 P) else (if y2 < 9 then (pu_I X 174 [.ref 85, .int (y2 - 6), .int (D70.1 85 40)] D70 (fun y74 D75 => P 1 D75)) else (pu_h190_294 X y2 (D70.1 85 40) D70 P))))) else (pu_I X 186 [.ref 85, .int 1, .int 119] D3 (fun y62 D63 => if y62 = 0 then (P 0 D63) else (if y2 < 6 then (pu_h190_294 X y2 (D63.1 85 40) D63 P) else (if y2 < 9 then (pu_I X 174 [.ref 85, .int (y2 - 6), .int (D63.1 85 40)] D63 (fun y67 D68 => P 1 D68)) else (pu_h190_294 X y2 (D63.1 85 40) D63 P)))))) else (if y2 = 4 then (pu_I X 186 [.ref 85, .int 0, .int 12] D3 (fun y54 D55 => if y54 = 0 then (P 0 D55) else (if y2 < 6 then (pu_h190_294 X y2 (D55.1 85 40) D55 P) else (if y2 < 9 then (pu_I X 174 [.ref 85, .int (y2 - 6), .int (D55.1 85 40)] D55 (fun y59 D60 => P 1 D60)) else (pu_h190_294 X y2 (D55.1 85 40) D55 P))))) else (pu_I X 186 [.ref 85, .int 0, .int 119] D3 (fun y47 D48 => if y47 = 0 then (P 0 D48) else (if y2 < 6 then (pu_h190_294 X y2 (D48.1 85 40) D48 P) else (if y2 < 9 then (pu_I X 174 [.ref 85, .int (y2 - 6), .int (D48.1 85 40)] D48 (fun y52 D53 => P 1 D53)) else (pu_h190_294 X y2 (D48.1 85 40) D48 P)))))))) else (if (D3.1 85 5) = 8 then (pu_I X 183 [.ref 85, .int (D.1 85 38)] D3 (fun y42 D43 => (y42 &&& 1 = y42) ∧ P y42 D43)) else (if y2 = 4 then (if y2 = 4 then (pu_I X 186 [.ref 85, .int 1, .int 12] D3 (fun y35 D36 => if y35 = 0 then (P 0 D36) else (if y2 < 6 then (pu_h190_294 X y2 (D36.1 85 40) D36 P) else (if y2 < 9 then (pu_I X 174 [.ref 85, .int (y2 - 6), .int (D36.1 85 40)] D36 (fun y40 D41 => P 1 D41)) else (pu_h190_294 X y2 (D36.1 85 40) D36 P))))) else (pu_I X 186 [.ref 85, .int 1, .int 119] D3 (fun y28 D29 => if y28 = 0 then (P 0 D29) else (if y2 < 6 then (pu_h190_294 X y2 (D29.1 85 40) D29 P) else (if y2 < 9 then (pu_I X 174 [.ref 85, .int (y2 - 6), .int (D29.1 85 40)] D29 (fun y33 D34 => P 1 D34)) else (pu_h190_294 X y2 (D29.1 85 40) D29 P)))))) else (if y2 = 4 then (pu_I X 186 [.ref 85, .int 0, .int 12] D3 (fun y20 D21 => if y20 = 0 then (P 0 D21) else (if y2 < 6 then (pu_h190_294 X y2 (D21.1 85 40) D21 P) else (if y2 < 9 then (pu_I X 174 [.ref 85, .int (y2 - 6), .int (D21.1 85 40)] D21 (fun y25 D26 => P 1 D26)) else (pu_h190_294 X y2 (D21.1 85 40) D21 P))))) else (pu_I X 186 [.ref 85, .int 0, .int 119] D3 (fun y13 D14 => if y13 = 0 then (P 0 D14) else (if y2 < 6 then (pu_h190_294 X y2 (D14.1 85 40) D14 P) else (if y2 < 9 then (pu_I X 174 [.ref 85, .int (y2 - 6), .int (D14.1 85 40)] D14 (fun y18 D19 => P 1 D19)) else (pu_h190_294 X y2 (D14.1 85 40) D14 P)))))))))))))))) :
    pu_h190_2 X x1 D P := by
  intro z2 hz2 z3 hz3 z4 hz4 z5 hz5 z6 hz6
  refine pu_iload_n rfl ?_
  refine pu_bipush ?_
  refine pu_ge_ pu_t190_39 (fun h1 => ?_) (fun h1 => ?_)
  · replace H := pu_f h1 H
    refine pu_aload_n rfl ?_
    refine pu_getI pu_k8_38 pu_c85 ?_
    refine pu_istore_n (L' := [.ref 85, .int (D.1 85 38), z2, z3, z4, z5, z6]) (Or.inr rfl) rfl ?_
    refine pu_aload_n rfl ?_
    refine pu_cv (vs := []) (rest := []) pu_g184 ⟨pu_c85, by decide⟩ rfl rfl rfl rfl rfl (pu_CI (pu_I_imp H (fun y2 D3 H => ?_)))
    refine pu_istore_n (L' := [.ref 85, .int (D.1 85 38), .int y2, z3, z4, z5, z6]) (Or.inr rfl) rfl ?_
    refine pu_iload_n rfl ?_
    refine pu_iconst ?_
    refine pu_ne_ pu_t190_56 (fun h4 => ?_) (fun h4 => ?_)
    · replace H := pu_f h4 H
      refine pu_iload_n rfl ?_
      refine pu_iconst ?_
      refine pu_ge_ pu_t190_123 (fun h5 => ?_) (fun h5 => ?_)
      · replace H := pu_f h5 H
        refine pu_iload_n rfl ?_
        refine pu_iconst ?_
        refine pu_ne_ pu_t190_145 (fun h6 => ?_) (fun h6 => ?_)
        · replace H := pu_f h6 H
          refine pu_iload_n rfl ?_
          refine pu_iconst ?_
          refine pu_ne_ pu_t190_167 (fun h7 => ?_) (fun h7 => ?_)
          · replace H := pu_f h7 H
            refine pu_iload_n rfl ?_
            refine pu_bipush ?_
            refine pu_ge_ pu_t190_184 (fun h8 => ?_) (fun h8 => ?_)
            · replace H := pu_f h8 H
              refine pu_iload_n rfl ?_
              refine pu_bipush ?_
              refine pu_ne_ pu_t190_207 (fun h9 => ?_) (fun h9 => ?_)
              · replace H := pu_f h9 H
                refine pu_aload_n rfl ?_
                refine pu_getI pu_k8_5 pu_c85 ?_
                refine pu_bipush ?_
                refine pu_ne_ pu_t190_220 (fun h10 => ?_) (fun h10 => ?_)
                · replace H := pu_f h10 H
                  refine pu_iconst ?_
                  refine pu_istore_n (L' := [.ref 85, .int (D.1 85 38), .int y2, .int 0, z4, z5, z6]) (Or.inr rfl) rfl ?_
                  refine pu_iload_n rfl ?_
                  refine pu_ifT (by decide) pu_t190_232 ?_
                  refine pu_aload_n rfl ?_
                  refine pu_iload_n rfl ?_
                  refine pu_iconst ?_
                  refine pu_ne_ pu_t190_242 (fun h11 => ?_) (fun h11 => ?_)
                  · replace H := pu_f h11 H
                    refine pu_iconst ?_
                    refine pu_iload_n rfl ?_
                    refine pu_iconst ?_
                    refine pu_ne_ pu_t190_253 (fun h12 => ?_) (fun h12 => ?_)
                    · replace H := pu_f h12 H
                      refine pu_bipush ?_
                      refine pu_cv (vs := [.int 0, .int 119]) (rest := []) pu_g186 ⟨pu_c85, by decide⟩ rfl rfl rfl rfl rfl (pu_CI (pu_I_imp H (fun y13 D14 H => ?_)))
                      refine pu_ne0 pu_t190_263 (fun h15 => ?_) (fun h15 => ?_)
                      · replace H := pu_f h15 H
                        refine pu_aload_n rfl ?_
                        refine pu_getI pu_k8_40 pu_c85 ?_
                        refine pu_istore (L' := [.ref 85, .int (D.1 85 38), .int y2, .int 0, .int (D14.1 85 40), z5, z6]) (Or.inr rfl) rfl ?_
                        refine pu_iload_n rfl ?_
                        refine pu_bipush ?_
                        refine pu_lt_ pu_t190_294 (fun h16 => ?_) (fun h16 => ?_)
                        · replace H := pu_t h16 H
                          exact H _ rfl _ rfl _ hz5 _ hz6
                        · replace H := pu_f h16 H
                          refine pu_iload_n rfl ?_
                          refine pu_bipush ?_
                          refine pu_ge_ pu_t190_294 (fun h17 => ?_) (fun h17 => ?_)
                          · replace H := pu_f h17 H
                            exact H _ rfl _ rfl _ hz5 _ hz6
                          · replace H := pu_t h17 H
                            refine pu_aload_n rfl ?_
                            refine pu_iload_n rfl ?_
                            refine pu_bipush ?_
                            refine pu_isub ?_
                            refine pu_iload rfl ?_
                            refine pu_cv (vs := [.int (y2 - 6), .int (D14.1 85 40)]) (rest := []) pu_g174 ⟨pu_c85, by decide⟩ rfl rfl rfl rfl rfl (pu_CI (pu_I_imp H (fun y18 D19 H => ?_)))
                            refine pu_pop rfl ?_
                            refine pu_iconst ?_
                            exact pu_iretZ pu_rt190 (by decide) H
                      · replace H := pu_t h15 H
                        refine pu_iconst ?_
                        exact pu_iretZ pu_rt190 (by decide) H
                    · replace H := pu_t h12 H
                      refine pu_bipush ?_
                      refine pu_goto pu_t190_255 ?_
                      refine pu_cv (vs := [.int 0, .int 12]) (rest := []) pu_g186 ⟨pu_c85, by decide⟩ rfl rfl rfl rfl rfl (pu_CI (pu_I_imp H (fun y20 D21 H => ?_)))
                      refine pu_ne0 pu_t190_263 (fun h22 => ?_) (fun h22 => ?_)
                      · replace H := pu_f h22 H
                        refine pu_aload_n rfl ?_
                        refine pu_getI pu_k8_40 pu_c85 ?_
                        refine pu_istore (L' := [.ref 85, .int (D.1 85 38), .int y2, .int 0, .int (D21.1 85 40), z5, z6]) (Or.inr rfl) rfl ?_
                        refine pu_iload_n rfl ?_
                        refine pu_bipush ?_
                        refine pu_lt_ pu_t190_294 (fun h23 => ?_) (fun h23 => ?_)
                        · replace H := pu_t h23 H
                          exact H _ rfl _ rfl _ hz5 _ hz6
                        · replace H := pu_f h23 H
                          refine pu_iload_n rfl ?_
                          refine pu_bipush ?_
                          refine pu_ge_ pu_t190_294 (fun h24 => ?_) (fun h24 => ?_)
                          · replace H := pu_f h24 H
                            exact H _ rfl _ rfl _ hz5 _ hz6
                          · replace H := pu_t h24 H
                            refine pu_aload_n rfl ?_
                            refine pu_iload_n rfl ?_
                            refine pu_bipush ?_
                            refine pu_isub ?_
                            refine pu_iload rfl ?_
                            refine pu_cv (vs := [.int (y2 - 6), .int (D21.1 85 40)]) (rest := []) pu_g174 ⟨pu_c85, by decide⟩ rfl rfl rfl rfl rfl (pu_CI (pu_I_imp H (fun y25 D26 H => ?_)))
                            refine pu_pop rfl ?_
                            refine pu_iconst ?_
                            exact pu_iretZ pu_rt190 (by decide) H
                      · replace H := pu_t h22 H
                        refine pu_iconst ?_
                        exact pu_iretZ pu_rt190 (by decide) H
                  · replace H := pu_t h11 H
                    refine pu_iconst ?_
                    refine pu_goto pu_t190_243 ?_
                    refine pu_iload_n rfl ?_
                    refine pu_iconst ?_
                    refine pu_ne_ pu_t190_253 (fun h27 => ?_) (fun h27 => ?_)
                    · replace H := pu_f h27 H
                      refine pu_bipush ?_
                      refine pu_cv (vs := [.int 1, .int 119]) (rest := []) pu_g186 ⟨pu_c85, by decide⟩ rfl rfl rfl rfl rfl (pu_CI (pu_I_imp H (fun y28 D29 H => ?_)))
                      refine pu_ne0 pu_t190_263 (fun h30 => ?_) (fun h30 => ?_)
                      · replace H := pu_f h30 H
                        refine pu_aload_n rfl ?_
                        refine pu_getI pu_k8_40 pu_c85 ?_
                        refine pu_istore (L' := [.ref 85, .int (D.1 85 38), .int y2, .int 0, .int (D29.1 85 40), z5, z6]) (Or.inr rfl) rfl ?_
                        refine pu_iload_n rfl ?_
                        refine pu_bipush ?_
                        refine pu_lt_ pu_t190_294 (fun h31 => ?_) (fun h31 => ?_)
                        · replace H := pu_t h31 H
                          exact H _ rfl _ rfl _ hz5 _ hz6
                        · replace H := pu_f h31 H
                          refine pu_iload_n rfl ?_
                          refine pu_bipush ?_
                          refine pu_ge_ pu_t190_294 (fun h32 => ?_) (fun h32 => ?_)
                          · replace H := pu_f h32 H
                            exact H _ rfl _ rfl _ hz5 _ hz6
                          · replace H := pu_t h32 H
                            refine pu_aload_n rfl ?_
                            refine pu_iload_n rfl ?_
                            refine pu_bipush ?_
                            refine pu_isub ?_
                            refine pu_iload rfl ?_
                            refine pu_cv (vs := [.int (y2 - 6), .int (D29.1 85 40)]) (rest := []) pu_g174 ⟨pu_c85, by decide⟩ rfl rfl rfl rfl rfl (pu_CI (pu_I_imp H (fun y33 D34 H => ?_)))
                            refine pu_pop rfl ?_
                            refine pu_iconst ?_
                            exact pu_iretZ pu_rt190 (by decide) H
                      · replace H := pu_t h30 H
                        refine pu_iconst ?_
                        exact pu_iretZ pu_rt190 (by decide) H
                    · replace H := pu_t h27 H
                      refine pu_bipush ?_
                      refine pu_goto pu_t190_255 ?_
                      refine pu_cv (vs := [.int 1, .int 12]) (rest := []) pu_g186 ⟨pu_c85, by decide⟩ rfl rfl rfl rfl rfl (pu_CI (pu_I_imp H (fun y35 D36 H => ?_)))
                      refine pu_ne0 pu_t190_263 (fun h37 => ?_) (fun h37 => ?_)
                      · replace H := pu_f h37 H
                        refine pu_aload_n rfl ?_
                        refine pu_getI pu_k8_40 pu_c85 ?_
                        refine pu_istore (L' := [.ref 85, .int (D.1 85 38), .int y2, .int 0, .int (D36.1 85 40), z5, z6]) (Or.inr rfl) rfl ?_
                        refine pu_iload_n rfl ?_
                        refine pu_bipush ?_
                        refine pu_lt_ pu_t190_294 (fun h38 => ?_) (fun h38 => ?_)
                        · replace H := pu_t h38 H
                          exact H _ rfl _ rfl _ hz5 _ hz6
                        · replace H := pu_f h38 H
                          refine pu_iload_n rfl ?_
                          refine pu_bipush ?_
                          refine pu_ge_ pu_t190_294 (fun h39 => ?_) (fun h39 => ?_)
                          · replace H := pu_f h39 H
                            exact H _ rfl _ rfl _ hz5 _ hz6
                          · replace H := pu_t h39 H
                            refine pu_aload_n rfl ?_
                            refine pu_iload_n rfl ?_
                            refine pu_bipush ?_
                            refine pu_isub ?_
                            refine pu_iload rfl ?_
                            refine pu_cv (vs := [.int (y2 - 6), .int (D36.1 85 40)]) (rest := []) pu_g174 ⟨pu_c85, by decide⟩ rfl rfl rfl rfl rfl (pu_CI (pu_I_imp H (fun y40 D41 H => ?_)))
                            refine pu_pop rfl ?_
                            refine pu_iconst ?_
                            exact pu_iretZ pu_rt190 (by decide) H
                      · replace H := pu_t h37 H
                        refine pu_iconst ?_
                        exact pu_iretZ pu_rt190 (by decide) H
                · replace H := pu_t h10 H
                  refine pu_iconst ?_
                  refine pu_goto pu_t190_221 ?_
                  refine pu_istore_n (L' := [.ref 85, .int (D.1 85 38), .int y2, .int 1, z4, z5, z6]) (Or.inr rfl) rfl ?_
                  refine pu_iload_n rfl ?_
                  refine pu_ifF (by decide) ?_
                  refine pu_aload_n rfl ?_
                  refine pu_iload_n rfl ?_
                  refine pu_cv (vs := [.int (D.1 85 38)]) (rest := []) pu_g183 ⟨pu_c85, by decide⟩ rfl rfl rfl rfl rfl (pu_CI (pu_I_imp H (fun y42 D43 H => ?_)))
                  exact pu_iretZ pu_rt190 H.1 H.2
              · replace H := pu_t h9 H
                refine pu_aload_n rfl ?_
                refine pu_getI pu_k8_4 pu_c85 ?_
                refine pu_bipush ?_
                refine pu_ne_ pu_t190_203 (fun h44 => ?_) (fun h44 => ?_)
                · replace H := pu_f h44 H
                  refine pu_iconst ?_
                  refine pu_goto pu_t190_221 ?_
                  refine pu_istore_n (L' := [.ref 85, .int (D.1 85 38), .int y2, .int 0, z4, z5, z6]) (Or.inr rfl) rfl ?_
                  refine pu_iload_n rfl ?_
                  refine pu_ifT (by decide) pu_t190_232 ?_
                  refine pu_aload_n rfl ?_
                  refine pu_iload_n rfl ?_
                  refine pu_iconst ?_
                  refine pu_ne_ pu_t190_242 (fun h45 => ?_) (fun h45 => ?_)
                  · replace H := pu_f h45 H
                    refine pu_iconst ?_
                    refine pu_iload_n rfl ?_
                    refine pu_iconst ?_
                    refine pu_ne_ pu_t190_253 (fun h46 => ?_) (fun h46 => ?_)
                    · replace H := pu_f h46 H
                      refine pu_bipush ?_
                      refine pu_cv (vs := [.int 0, .int 119]) (rest := []) pu_g186 ⟨pu_c85, by decide⟩ rfl rfl rfl rfl rfl (pu_CI (pu_I_imp H (fun y47 D48 H => ?_)))
                      refine pu_ne0 pu_t190_263 (fun h49 => ?_) (fun h49 => ?_)
                      · replace H := pu_f h49 H
                        refine pu_aload_n rfl ?_
                        refine pu_getI pu_k8_40 pu_c85 ?_
                        refine pu_istore (L' := [.ref 85, .int (D.1 85 38), .int y2, .int 0, .int (D48.1 85 40), z5, z6]) (Or.inr rfl) rfl ?_
                        refine pu_iload_n rfl ?_
                        refine pu_bipush ?_
                        refine pu_lt_ pu_t190_294 (fun h50 => ?_) (fun h50 => ?_)
                        · replace H := pu_t h50 H
                          exact H _ rfl _ rfl _ hz5 _ hz6
                        · replace H := pu_f h50 H
                          refine pu_iload_n rfl ?_
                          refine pu_bipush ?_
                          refine pu_ge_ pu_t190_294 (fun h51 => ?_) (fun h51 => ?_)
                          · replace H := pu_f h51 H
                            exact H _ rfl _ rfl _ hz5 _ hz6
                          · replace H := pu_t h51 H
                            refine pu_aload_n rfl ?_
                            refine pu_iload_n rfl ?_
                            refine pu_bipush ?_
                            refine pu_isub ?_
                            refine pu_iload rfl ?_
                            refine pu_cv (vs := [.int (y2 - 6), .int (D48.1 85 40)]) (rest := []) pu_g174 ⟨pu_c85, by decide⟩ rfl rfl rfl rfl rfl (pu_CI (pu_I_imp H (fun y52 D53 H => ?_)))
                            refine pu_pop rfl ?_
                            refine pu_iconst ?_
                            exact pu_iretZ pu_rt190 (by decide) H
                      · replace H := pu_t h49 H
                        refine pu_iconst ?_
                        exact pu_iretZ pu_rt190 (by decide) H
                    · replace H := pu_t h46 H
                      refine pu_bipush ?_
                      refine pu_goto pu_t190_255 ?_
                      refine pu_cv (vs := [.int 0, .int 12]) (rest := []) pu_g186 ⟨pu_c85, by decide⟩ rfl rfl rfl rfl rfl (pu_CI (pu_I_imp H (fun y54 D55 H => ?_)))
                      refine pu_ne0 pu_t190_263 (fun h56 => ?_) (fun h56 => ?_)
                      · replace H := pu_f h56 H
                        refine pu_aload_n rfl ?_
                        refine pu_getI pu_k8_40 pu_c85 ?_
                        refine pu_istore (L' := [.ref 85, .int (D.1 85 38), .int y2, .int 0, .int (D55.1 85 40), z5, z6]) (Or.inr rfl) rfl ?_
                        refine pu_iload_n rfl ?_
                        refine pu_bipush ?_
                        refine pu_lt_ pu_t190_294 (fun h57 => ?_) (fun h57 => ?_)
                        · replace H := pu_t h57 H
                          exact H _ rfl _ rfl _ hz5 _ hz6
                        · replace H := pu_f h57 H
                          refine pu_iload_n rfl ?_
                          refine pu_bipush ?_
                          refine pu_ge_ pu_t190_294 (fun h58 => ?_) (fun h58 => ?_)
                          · replace H := pu_f h58 H
                            exact H _ rfl _ rfl _ hz5 _ hz6
                          · replace H := pu_t h58 H
                            refine pu_aload_n rfl ?_
                            refine pu_iload_n rfl ?_
                            refine pu_bipush ?_
                            refine pu_isub ?_
                            refine pu_iload rfl ?_
                            refine pu_cv (vs := [.int (y2 - 6), .int (D55.1 85 40)]) (rest := []) pu_g174 ⟨pu_c85, by decide⟩ rfl rfl rfl rfl rfl (pu_CI (pu_I_imp H (fun y59 D60 H => ?_)))
                            refine pu_pop rfl ?_
                            refine pu_iconst ?_
                            exact pu_iretZ pu_rt190 (by decide) H
                      · replace H := pu_t h56 H
                        refine pu_iconst ?_
                        exact pu_iretZ pu_rt190 (by decide) H
                  · replace H := pu_t h45 H
                    refine pu_iconst ?_
                    refine pu_goto pu_t190_243 ?_
                    refine pu_iload_n rfl ?_
                    refine pu_iconst ?_
                    refine pu_ne_ pu_t190_253 (fun h61 => ?_) (fun h61 => ?_)
                    · replace H := pu_f h61 H
                      refine pu_bipush ?_
                      refine pu_cv (vs := [.int 1, .int 119]) (rest := []) pu_g186 ⟨pu_c85, by decide⟩ rfl rfl rfl rfl rfl (pu_CI (pu_I_imp H (fun y62 D63 H => ?_)))
                      refine pu_ne0 pu_t190_263 (fun h64 => ?_) (fun h64 => ?_)
                      · replace H := pu_f h64 H
                        refine pu_aload_n rfl ?_
                        refine pu_getI pu_k8_40 pu_c85 ?_
                        refine pu_istore (L' := [.ref 85, .int (D.1 85 38), .int y2, .int 0, .int (D63.1 85 40), z5, z6]) (Or.inr rfl) rfl ?_
                        refine pu_iload_n rfl ?_
                        refine pu_bipush ?_
                        refine pu_lt_ pu_t190_294 (fun h65 => ?_) (fun h65 => ?_)
                        · replace H := pu_t h65 H
                          exact H _ rfl _ rfl _ hz5 _ hz6
                        · replace H := pu_f h65 H
                          refine pu_iload_n rfl ?_
                          refine pu_bipush ?_
                          refine pu_ge_ pu_t190_294 (fun h66 => ?_) (fun h66 => ?_)
                          · replace H := pu_f h66 H
                            exact H _ rfl _ rfl _ hz5 _ hz6
                          · replace H := pu_t h66 H
                            refine pu_aload_n rfl ?_
                            refine pu_iload_n rfl ?_
                            refine pu_bipush ?_
                            refine pu_isub ?_
                            refine pu_iload rfl ?_
                            refine pu_cv (vs := [.int (y2 - 6), .int (D63.1 85 40)]) (rest := []) pu_g174 ⟨pu_c85, by decide⟩ rfl rfl rfl rfl rfl (pu_CI (pu_I_imp H (fun y67 D68 H => ?_)))
                            refine pu_pop rfl ?_
                            refine pu_iconst ?_
                            exact pu_iretZ pu_rt190 (by decide) H
                      · replace H := pu_t h64 H
                        refine pu_iconst ?_
                        exact pu_iretZ pu_rt190 (by decide) H
                    · replace H := pu_t h61 H
                      refine pu_bipush ?_
                      refine pu_goto pu_t190_255 ?_
                      refine pu_cv (vs := [.int 1, .int 12]) (rest := []) pu_g186 ⟨pu_c85, by decide⟩ rfl rfl rfl rfl rfl (pu_CI (pu_I_imp H (fun y69 D70 H => ?_)))
                      refine pu_ne0 pu_t190_263 (fun h71 => ?_) (fun h71 => ?_)
                      · replace H := pu_f h71 H
                        refine pu_aload_n rfl ?_
                        refine pu_getI pu_k8_40 pu_c85 ?_
                        refine pu_istore (L' := [.ref 85, .int (D.1 85 38), .int y2, .int 0, .int (D70.1 85 40), z5, z6]) (Or.inr rfl) rfl ?_
                        refine pu_iload_n rfl ?_
                        refine pu_bipush ?_
                        refine pu_lt_ pu_t190_294 (fun h72 => ?_) (fun h72 => ?_)
                        · replace H := pu_t h72 H
                          exact H _ rfl _ rfl _ hz5 _ hz6
                        · replace H := pu_f h72 H
                          refine pu_iload_n rfl ?_
                          refine pu_bipush ?_
                          refine pu_ge_ pu_t190_294 (fun h73 => ?_) (fun h73 => ?_)
                          · replace H := pu_f h73 H
                            exact H _ rfl _ rfl _ hz5 _ hz6
                          · replace H := pu_t h73 H
                            refine pu_aload_n rfl ?_
                            refine pu_iload_n rfl ?_
                            refine pu_bipush ?_
                            refine pu_isub ?_
                            refine pu_iload rfl ?_
                            refine pu_cv (vs := [.int (y2 - 6), .int (D70.1 85 40)]) (rest := []) pu_g174 ⟨pu_c85, by decide⟩ rfl rfl rfl rfl rfl (pu_CI (pu_I_imp H (fun y74 D75 H => ?_)))
                            refine pu_pop rfl ?_
                            refine pu_iconst ?_
                            exact pu_iretZ pu_rt190 (by decide) H
                      · replace H := pu_t h71 H
                        refine pu_iconst ?_
                        exact pu_iretZ pu_rt190 (by decide) H
                · replace H := pu_t h44 H
                  refine pu_iconst ?_
                  refine pu_goto pu_t190_221 ?_
                  refine pu_istore_n (L' := [.ref 85, .int (D.1 85 38), .int y2, .int 1, z4, z5, z6]) (Or.inr rfl) rfl ?_
                  refine pu_iload_n rfl ?_
                  refine pu_ifF (by decide) ?_
                  refine pu_aload_n rfl ?_
                  refine pu_iload_n rfl ?_
                  refine pu_cv (vs := [.int (D.1 85 38)]) (rest := []) pu_g183 ⟨pu_c85, by decide⟩ rfl rfl rfl rfl rfl (pu_CI (pu_I_imp H (fun y76 D77 H => ?_)))
                  exact pu_iretZ pu_rt190 H.1 H.2
            · replace H := pu_t h8 H
              refine pu_aload_n rfl ?_
              refine pu_iload_n rfl ?_
              refine pu_bipush ?_
              refine pu_isub ?_
              refine pu_cv (vs := [.int (y2 - 6)]) (rest := []) pu_g173 ⟨pu_c85, by decide⟩ rfl rfl rfl rfl rfl (pu_CI (pu_I_imp H (fun y78 D79 H => ?_)))
              refine pu_goto pu_t190_221 ?_
              refine pu_istore_n (L' := [.ref 85, .int (D.1 85 38), .int y2, .int y78, z4, z5, z6]) (Or.inr rfl) rfl ?_
              refine pu_iload_n rfl ?_
              refine pu_eq0 pu_t190_232 (fun h80 => ?_) (fun h80 => ?_)
              · replace H := pu_t h80 H
                refine pu_aload_n rfl ?_
                refine pu_iload_n rfl ?_
                refine pu_iconst ?_
                refine pu_ne_ pu_t190_242 (fun h81 => ?_) (fun h81 => ?_)
                · replace H := pu_f h81 H
                  refine pu_iconst ?_
                  refine pu_iload_n rfl ?_
                  refine pu_iconst ?_
                  refine pu_ne_ pu_t190_253 (fun h82 => ?_) (fun h82 => ?_)
                  · replace H := pu_f h82 H
                    refine pu_bipush ?_
                    refine pu_cv (vs := [.int 0, .int 119]) (rest := []) pu_g186 ⟨pu_c85, by decide⟩ rfl rfl rfl rfl rfl (pu_CI (pu_I_imp H (fun y83 D84 H => ?_)))
                    refine pu_ne0 pu_t190_263 (fun h85 => ?_) (fun h85 => ?_)
                    · replace H := pu_f h85 H
                      refine pu_aload_n rfl ?_
                      refine pu_getI pu_k8_40 pu_c85 ?_
                      refine pu_istore (L' := [.ref 85, .int (D.1 85 38), .int y2, .int y78, .int (D84.1 85 40), z5, z6]) (Or.inr rfl) rfl ?_
                      refine pu_iload_n rfl ?_
                      refine pu_bipush ?_
                      refine pu_lt_ pu_t190_294 (fun h86 => ?_) (fun h86 => ?_)
                      · replace H := pu_t h86 H
                        exact H _ rfl _ rfl _ hz5 _ hz6
                      · replace H := pu_f h86 H
                        refine pu_iload_n rfl ?_
                        refine pu_bipush ?_
                        refine pu_ge_ pu_t190_294 (fun h87 => ?_) (fun h87 => ?_)
                        · replace H := pu_f h87 H
                          exact H _ rfl _ rfl _ hz5 _ hz6
                        · replace H := pu_t h87 H
                          refine pu_aload_n rfl ?_
                          refine pu_iload_n rfl ?_
                          refine pu_bipush ?_
                          refine pu_isub ?_
                          refine pu_iload rfl ?_
                          refine pu_cv (vs := [.int (y2 - 6), .int (D84.1 85 40)]) (rest := []) pu_g174 ⟨pu_c85, by decide⟩ rfl rfl rfl rfl rfl (pu_CI (pu_I_imp H (fun y88 D89 H => ?_)))
                          refine pu_pop rfl ?_
                          refine pu_iconst ?_
                          exact pu_iretZ pu_rt190 (by decide) H
                    · replace H := pu_t h85 H
                      refine pu_iconst ?_
                      exact pu_iretZ pu_rt190 (by decide) H
                  · replace H := pu_t h82 H
                    refine pu_bipush ?_
                    refine pu_goto pu_t190_255 ?_
                    refine pu_cv (vs := [.int 0, .int 12]) (rest := []) pu_g186 ⟨pu_c85, by decide⟩ rfl rfl rfl rfl rfl (pu_CI (pu_I_imp H (fun y90 D91 H => ?_)))
                    refine pu_ne0 pu_t190_263 (fun h92 => ?_) (fun h92 => ?_)
                    · replace H := pu_f h92 H
                      refine pu_aload_n rfl ?_
                      refine pu_getI pu_k8_40 pu_c85 ?_
                      refine pu_istore (L' := [.ref 85, .int (D.1 85 38), .int y2, .int y78, .int (D91.1 85 40), z5, z6]) (Or.inr rfl) rfl ?_
                      refine pu_iload_n rfl ?_
                      refine pu_bipush ?_
                      refine pu_lt_ pu_t190_294 (fun h93 => ?_) (fun h93 => ?_)
                      · replace H := pu_t h93 H
                        exact H _ rfl _ rfl _ hz5 _ hz6
                      · replace H := pu_f h93 H
                        refine pu_iload_n rfl ?_
                        refine pu_bipush ?_
                        refine pu_ge_ pu_t190_294 (fun h94 => ?_) (fun h94 => ?_)
                        · replace H := pu_f h94 H
                          exact H _ rfl _ rfl _ hz5 _ hz6
                        · replace H := pu_t h94 H
                          refine pu_aload_n rfl ?_
                          refine pu_iload_n rfl ?_
                          refine pu_bipush ?_
                          refine pu_isub ?_
                          refine pu_iload rfl ?_
                          refine pu_cv (vs := [.int (y2 - 6), .int (D91.1 85 40)]) (rest := []) pu_g174 ⟨pu_c85, by decide⟩ rfl rfl rfl rfl rfl (pu_CI (pu_I_imp H (fun y95 D96 H => ?_)))
                          refine pu_pop rfl ?_
                          refine pu_iconst ?_
                          exact pu_iretZ pu_rt190 (by decide) H
                    · replace H := pu_t h92 H
                      refine pu_iconst ?_
                      exact pu_iretZ pu_rt190 (by decide) H
                · replace H := pu_t h81 H
                  refine pu_iconst ?_
                  refine pu_goto pu_t190_243 ?_
                  refine pu_iload_n rfl ?_
                  refine pu_iconst ?_
                  refine pu_ne_ pu_t190_253 (fun h97 => ?_) (fun h97 => ?_)
                  · replace H := pu_f h97 H
                    refine pu_bipush ?_
                    refine pu_cv (vs := [.int 1, .int 119]) (rest := []) pu_g186 ⟨pu_c85, by decide⟩ rfl rfl rfl rfl rfl (pu_CI (pu_I_imp H (fun y98 D99 H => ?_)))
                    refine pu_ne0 pu_t190_263 (fun h100 => ?_) (fun h100 => ?_)
                    · replace H := pu_f h100 H
                      refine pu_aload_n rfl ?_
                      refine pu_getI pu_k8_40 pu_c85 ?_
                      refine pu_istore (L' := [.ref 85, .int (D.1 85 38), .int y2, .int y78, .int (D99.1 85 40), z5, z6]) (Or.inr rfl) rfl ?_
                      refine pu_iload_n rfl ?_
                      refine pu_bipush ?_
                      refine pu_lt_ pu_t190_294 (fun h101 => ?_) (fun h101 => ?_)
                      · replace H := pu_t h101 H
                        exact H _ rfl _ rfl _ hz5 _ hz6
                      · replace H := pu_f h101 H
                        refine pu_iload_n rfl ?_
                        refine pu_bipush ?_
                        refine pu_ge_ pu_t190_294 (fun h102 => ?_) (fun h102 => ?_)
                        · replace H := pu_f h102 H
                          exact H _ rfl _ rfl _ hz5 _ hz6
                        · replace H := pu_t h102 H
                          refine pu_aload_n rfl ?_
                          refine pu_iload_n rfl ?_
                          refine pu_bipush ?_
                          refine pu_isub ?_
                          refine pu_iload rfl ?_
                          refine pu_cv (vs := [.int (y2 - 6), .int (D99.1 85 40)]) (rest := []) pu_g174 ⟨pu_c85, by decide⟩ rfl rfl rfl rfl rfl (pu_CI (pu_I_imp H (fun y103 D104 H => ?_)))
                          refine pu_pop rfl ?_
                          refine pu_iconst ?_
                          exact pu_iretZ pu_rt190 (by decide) H
                    · replace H := pu_t h100 H
                      refine pu_iconst ?_
                      exact pu_iretZ pu_rt190 (by decide) H
                  · replace H := pu_t h97 H
                    refine pu_bipush ?_
                    refine pu_goto pu_t190_255 ?_
                    refine pu_cv (vs := [.int 1, .int 12]) (rest := []) pu_g186 ⟨pu_c85, by decide⟩ rfl rfl rfl rfl rfl (pu_CI (pu_I_imp H (fun y105 D106 H => ?_)))
                    refine pu_ne0 pu_t190_263 (fun h107 => ?_) (fun h107 => ?_)
                    · replace H := pu_f h107 H
                      refine pu_aload_n rfl ?_
                      refine pu_getI pu_k8_40 pu_c85 ?_
                      refine pu_istore (L' := [.ref 85, .int (D.1 85 38), .int y2, .int y78, .int (D106.1 85 40), z5, z6]) (Or.inr rfl) rfl ?_
                      refine pu_iload_n rfl ?_
                      refine pu_bipush ?_
                      refine pu_lt_ pu_t190_294 (fun h108 => ?_) (fun h108 => ?_)
                      · replace H := pu_t h108 H
                        exact H _ rfl _ rfl _ hz5 _ hz6
                      · replace H := pu_f h108 H
                        refine pu_iload_n rfl ?_
                        refine pu_bipush ?_
                        refine pu_ge_ pu_t190_294 (fun h109 => ?_) (fun h109 => ?_)
                        · replace H := pu_f h109 H
                          exact H _ rfl _ rfl _ hz5 _ hz6
                        · replace H := pu_t h109 H
                          refine pu_aload_n rfl ?_
                          refine pu_iload_n rfl ?_
                          refine pu_bipush ?_
                          refine pu_isub ?_
                          refine pu_iload rfl ?_
                          refine pu_cv (vs := [.int (y2 - 6), .int (D106.1 85 40)]) (rest := []) pu_g174 ⟨pu_c85, by decide⟩ rfl rfl rfl rfl rfl (pu_CI (pu_I_imp H (fun y110 D111 H => ?_)))
                          refine pu_pop rfl ?_
                          refine pu_iconst ?_
                          exact pu_iretZ pu_rt190 (by decide) H
                    · replace H := pu_t h107 H
                      refine pu_iconst ?_
                      exact pu_iretZ pu_rt190 (by decide) H
              · replace H := pu_f h80 H
                refine pu_aload_n rfl ?_
                refine pu_iload_n rfl ?_
                refine pu_cv (vs := [.int (D.1 85 38)]) (rest := []) pu_g183 ⟨pu_c85, by decide⟩ rfl rfl rfl rfl rfl (pu_CI (pu_I_imp H (fun y112 D113 H => ?_)))
                exact pu_iretZ pu_rt190 H.1 H.2
          · replace H := pu_t h7 H
            refine pu_aload_n rfl ?_
            refine pu_getI pu_k8_1 pu_c85 ?_
            refine pu_bipush ?_
            refine pu_ne_ pu_t190_163 (fun h114 => ?_) (fun h114 => ?_)
            · replace H := pu_f h114 H
              refine pu_iconst ?_
              refine pu_goto pu_t190_221 ?_
              refine pu_istore_n (L' := [.ref 85, .int (D.1 85 38), .int y2, .int 0, z4, z5, z6]) (Or.inr rfl) rfl ?_
              refine pu_iload_n rfl ?_
              refine pu_ifT (by decide) pu_t190_232 ?_
              refine pu_aload_n rfl ?_
              refine pu_iload_n rfl ?_
              refine pu_iconst ?_
              refine pu_ne_ pu_t190_242 (fun h115 => ?_) (fun h115 => ?_)
              · replace H := pu_f h115 H
                refine pu_iconst ?_
                refine pu_iload_n rfl ?_
                refine pu_iconst ?_
                refine pu_ne_ pu_t190_253 (fun h116 => ?_) (fun h116 => ?_)
                · replace H := pu_f h116 H
                  refine pu_bipush ?_
                  refine pu_cv (vs := [.int 0, .int 119]) (rest := []) pu_g186 ⟨pu_c85, by decide⟩ rfl rfl rfl rfl rfl (pu_CI (pu_I_imp H (fun y117 D118 H => ?_)))
                  refine pu_ne0 pu_t190_263 (fun h119 => ?_) (fun h119 => ?_)
                  · replace H := pu_f h119 H
                    refine pu_aload_n rfl ?_
                    refine pu_getI pu_k8_40 pu_c85 ?_
                    refine pu_istore (L' := [.ref 85, .int (D.1 85 38), .int y2, .int 0, .int (D118.1 85 40), z5, z6]) (Or.inr rfl) rfl ?_
                    refine pu_iload_n rfl ?_
                    refine pu_bipush ?_
                    refine pu_lt_ pu_t190_294 (fun h120 => ?_) (fun h120 => ?_)
                    · replace H := pu_t h120 H
                      exact H _ rfl _ rfl _ hz5 _ hz6
                    · replace H := pu_f h120 H
                      refine pu_iload_n rfl ?_
                      refine pu_bipush ?_
                      refine pu_ge_ pu_t190_294 (fun h121 => ?_) (fun h121 => ?_)
                      · replace H := pu_f h121 H
                        exact H _ rfl _ rfl _ hz5 _ hz6
                      · replace H := pu_t h121 H
                        refine pu_aload_n rfl ?_
                        refine pu_iload_n rfl ?_
                        refine pu_bipush ?_
                        refine pu_isub ?_
                        refine pu_iload rfl ?_
                        refine pu_cv (vs := [.int (y2 - 6), .int (D118.1 85 40)]) (rest := []) pu_g174 ⟨pu_c85, by decide⟩ rfl rfl rfl rfl rfl (pu_CI (pu_I_imp H (fun y122 D123 H => ?_)))
                        refine pu_pop rfl ?_
                        refine pu_iconst ?_
                        exact pu_iretZ pu_rt190 (by decide) H
                  · replace H := pu_t h119 H
                    refine pu_iconst ?_
                    exact pu_iretZ pu_rt190 (by decide) H
                · replace H := pu_t h116 H
                  refine pu_bipush ?_
                  refine pu_goto pu_t190_255 ?_
                  refine pu_cv (vs := [.int 0, .int 12]) (rest := []) pu_g186 ⟨pu_c85, by decide⟩ rfl rfl rfl rfl rfl (pu_CI (pu_I_imp H (fun y124 D125 H => ?_)))
                  refine pu_ne0 pu_t190_263 (fun h126 => ?_) (fun h126 => ?_)
                  · replace H := pu_f h126 H
                    refine pu_aload_n rfl ?_
                    refine pu_getI pu_k8_40 pu_c85 ?_
                    refine pu_istore (L' := [.ref 85, .int (D.1 85 38), .int y2, .int 0, .int (D125.1 85 40), z5, z6]) (Or.inr rfl) rfl ?_
                    refine pu_iload_n rfl ?_
                    refine pu_bipush ?_
                    refine pu_lt_ pu_t190_294 (fun h127 => ?_) (fun h127 => ?_)
                    · replace H := pu_t h127 H
                      exact H _ rfl _ rfl _ hz5 _ hz6
                    · replace H := pu_f h127 H
                      refine pu_iload_n rfl ?_
                      refine pu_bipush ?_
                      refine pu_ge_ pu_t190_294 (fun h128 => ?_) (fun h128 => ?_)
                      · replace H := pu_f h128 H
                        exact H _ rfl _ rfl _ hz5 _ hz6
                      · replace H := pu_t h128 H
                        refine pu_aload_n rfl ?_
                        refine pu_iload_n rfl ?_
                        refine pu_bipush ?_
                        refine pu_isub ?_
                        refine pu_iload rfl ?_
                        refine pu_cv (vs := [.int (y2 - 6), .int (D125.1 85 40)]) (rest := []) pu_g174 ⟨pu_c85, by decide⟩ rfl rfl rfl rfl rfl (pu_CI (pu_I_imp H (fun y129 D130 H => ?_)))
                        refine pu_pop rfl ?_
                        refine pu_iconst ?_
                        exact pu_iretZ pu_rt190 (by decide) H
                  · replace H := pu_t h126 H
                    refine pu_iconst ?_
                    exact pu_iretZ pu_rt190 (by decide) H
              · replace H := pu_t h115 H
                refine pu_iconst ?_
                refine pu_goto pu_t190_243 ?_
                refine pu_iload_n rfl ?_
                refine pu_iconst ?_
                refine pu_ne_ pu_t190_253 (fun h131 => ?_) (fun h131 => ?_)
                · replace H := pu_f h131 H
                  refine pu_bipush ?_
                  refine pu_cv (vs := [.int 1, .int 119]) (rest := []) pu_g186 ⟨pu_c85, by decide⟩ rfl rfl rfl rfl rfl (pu_CI (pu_I_imp H (fun y132 D133 H => ?_)))
                  refine pu_ne0 pu_t190_263 (fun h134 => ?_) (fun h134 => ?_)
                  · replace H := pu_f h134 H
                    refine pu_aload_n rfl ?_
                    refine pu_getI pu_k8_40 pu_c85 ?_
                    refine pu_istore (L' := [.ref 85, .int (D.1 85 38), .int y2, .int 0, .int (D133.1 85 40), z5, z6]) (Or.inr rfl) rfl ?_
                    refine pu_iload_n rfl ?_
                    refine pu_bipush ?_
                    refine pu_lt_ pu_t190_294 (fun h135 => ?_) (fun h135 => ?_)
                    · replace H := pu_t h135 H
                      exact H _ rfl _ rfl _ hz5 _ hz6
                    · replace H := pu_f h135 H
                      refine pu_iload_n rfl ?_
                      refine pu_bipush ?_
                      refine pu_ge_ pu_t190_294 (fun h136 => ?_) (fun h136 => ?_)
                      · replace H := pu_f h136 H
                        exact H _ rfl _ rfl _ hz5 _ hz6
                      · replace H := pu_t h136 H
                        refine pu_aload_n rfl ?_
                        refine pu_iload_n rfl ?_
                        refine pu_bipush ?_
                        refine pu_isub ?_
                        refine pu_iload rfl ?_
                        refine pu_cv (vs := [.int (y2 - 6), .int (D133.1 85 40)]) (rest := []) pu_g174 ⟨pu_c85, by decide⟩ rfl rfl rfl rfl rfl (pu_CI (pu_I_imp H (fun y137 D138 H => ?_)))
                        refine pu_pop rfl ?_
                        refine pu_iconst ?_
                        exact pu_iretZ pu_rt190 (by decide) H
                  · replace H := pu_t h134 H
                    refine pu_iconst ?_
                    exact pu_iretZ pu_rt190 (by decide) H
                · replace H := pu_t h131 H
                  refine pu_bipush ?_
                  refine pu_goto pu_t190_255 ?_
                  refine pu_cv (vs := [.int 1, .int 12]) (rest := []) pu_g186 ⟨pu_c85, by decide⟩ rfl rfl rfl rfl rfl (pu_CI (pu_I_imp H (fun y139 D140 H => ?_)))
                  refine pu_ne0 pu_t190_263 (fun h141 => ?_) (fun h141 => ?_)
                  · replace H := pu_f h141 H
                    refine pu_aload_n rfl ?_
                    refine pu_getI pu_k8_40 pu_c85 ?_
                    refine pu_istore (L' := [.ref 85, .int (D.1 85 38), .int y2, .int 0, .int (D140.1 85 40), z5, z6]) (Or.inr rfl) rfl ?_
                    refine pu_iload_n rfl ?_
                    refine pu_bipush ?_
                    refine pu_lt_ pu_t190_294 (fun h142 => ?_) (fun h142 => ?_)
                    · replace H := pu_t h142 H
                      exact H _ rfl _ rfl _ hz5 _ hz6
                    · replace H := pu_f h142 H
                      refine pu_iload_n rfl ?_
                      refine pu_bipush ?_
                      refine pu_ge_ pu_t190_294 (fun h143 => ?_) (fun h143 => ?_)
                      · replace H := pu_f h143 H
                        exact H _ rfl _ rfl _ hz5 _ hz6
                      · replace H := pu_t h143 H
                        refine pu_aload_n rfl ?_
                        refine pu_iload_n rfl ?_
                        refine pu_bipush ?_
                        refine pu_isub ?_
                        refine pu_iload rfl ?_
                        refine pu_cv (vs := [.int (y2 - 6), .int (D140.1 85 40)]) (rest := []) pu_g174 ⟨pu_c85, by decide⟩ rfl rfl rfl rfl rfl (pu_CI (pu_I_imp H (fun y144 D145 H => ?_)))
                        refine pu_pop rfl ?_
                        refine pu_iconst ?_
                        exact pu_iretZ pu_rt190 (by decide) H
                  · replace H := pu_t h141 H
                    refine pu_iconst ?_
                    exact pu_iretZ pu_rt190 (by decide) H
            · replace H := pu_t h114 H
              refine pu_iconst ?_
              refine pu_goto pu_t190_221 ?_
              refine pu_istore_n (L' := [.ref 85, .int (D.1 85 38), .int y2, .int 1, z4, z5, z6]) (Or.inr rfl) rfl ?_
              refine pu_iload_n rfl ?_
              refine pu_ifF (by decide) ?_
              refine pu_aload_n rfl ?_
              refine pu_iload_n rfl ?_
              refine pu_cv (vs := [.int (D.1 85 38)]) (rest := []) pu_g183 ⟨pu_c85, by decide⟩ rfl rfl rfl rfl rfl (pu_CI (pu_I_imp H (fun y146 D147 H => ?_)))
              exact pu_iretZ pu_rt190 H.1 H.2
        · replace H := pu_t h6 H
          refine pu_aload_n rfl ?_
          refine pu_getI pu_k8_0 pu_c85 ?_
          refine pu_bipush ?_
          refine pu_ne_ pu_t190_141 (fun h148 => ?_) (fun h148 => ?_)
          · replace H := pu_f h148 H
            refine pu_iconst ?_
            refine pu_goto pu_t190_221 ?_
            refine pu_istore_n (L' := [.ref 85, .int (D.1 85 38), .int y2, .int 0, z4, z5, z6]) (Or.inr rfl) rfl ?_
            refine pu_iload_n rfl ?_
            refine pu_ifT (by decide) pu_t190_232 ?_
            refine pu_aload_n rfl ?_
            refine pu_iload_n rfl ?_
            refine pu_iconst ?_
            refine pu_ne_ pu_t190_242 (fun h149 => ?_) (fun h149 => ?_)
            · replace H := pu_f h149 H
              refine pu_iconst ?_
              refine pu_iload_n rfl ?_
              refine pu_iconst ?_
              refine pu_ne_ pu_t190_253 (fun h150 => ?_) (fun h150 => ?_)
              · replace H := pu_f h150 H
                refine pu_bipush ?_
                refine pu_cv (vs := [.int 0, .int 119]) (rest := []) pu_g186 ⟨pu_c85, by decide⟩ rfl rfl rfl rfl rfl (pu_CI (pu_I_imp H (fun y151 D152 H => ?_)))
                refine pu_ne0 pu_t190_263 (fun h153 => ?_) (fun h153 => ?_)
                · replace H := pu_f h153 H
                  refine pu_aload_n rfl ?_
                  refine pu_getI pu_k8_40 pu_c85 ?_
                  refine pu_istore (L' := [.ref 85, .int (D.1 85 38), .int y2, .int 0, .int (D152.1 85 40), z5, z6]) (Or.inr rfl) rfl ?_
                  refine pu_iload_n rfl ?_
                  refine pu_bipush ?_
                  refine pu_lt_ pu_t190_294 (fun h154 => ?_) (fun h154 => ?_)
                  · replace H := pu_t h154 H
                    exact H _ rfl _ rfl _ hz5 _ hz6
                  · replace H := pu_f h154 H
                    refine pu_iload_n rfl ?_
                    refine pu_bipush ?_
                    refine pu_ge_ pu_t190_294 (fun h155 => ?_) (fun h155 => ?_)
                    · replace H := pu_f h155 H
                      exact H _ rfl _ rfl _ hz5 _ hz6
                    · replace H := pu_t h155 H
                      refine pu_aload_n rfl ?_
                      refine pu_iload_n rfl ?_
                      refine pu_bipush ?_
                      refine pu_isub ?_
                      refine pu_iload rfl ?_
                      refine pu_cv (vs := [.int (y2 - 6), .int (D152.1 85 40)]) (rest := []) pu_g174 ⟨pu_c85, by decide⟩ rfl rfl rfl rfl rfl (pu_CI (pu_I_imp H (fun y156 D157 H => ?_)))
                      refine pu_pop rfl ?_
                      refine pu_iconst ?_
                      exact pu_iretZ pu_rt190 (by decide) H
                · replace H := pu_t h153 H
                  refine pu_iconst ?_
                  exact pu_iretZ pu_rt190 (by decide) H
              · replace H := pu_t h150 H
                refine pu_bipush ?_
                refine pu_goto pu_t190_255 ?_
                refine pu_cv (vs := [.int 0, .int 12]) (rest := []) pu_g186 ⟨pu_c85, by decide⟩ rfl rfl rfl rfl rfl (pu_CI (pu_I_imp H (fun y158 D159 H => ?_)))
                refine pu_ne0 pu_t190_263 (fun h160 => ?_) (fun h160 => ?_)
                · replace H := pu_f h160 H
                  refine pu_aload_n rfl ?_
                  refine pu_getI pu_k8_40 pu_c85 ?_
                  refine pu_istore (L' := [.ref 85, .int (D.1 85 38), .int y2, .int 0, .int (D159.1 85 40), z5, z6]) (Or.inr rfl) rfl ?_
                  refine pu_iload_n rfl ?_
                  refine pu_bipush ?_
                  refine pu_lt_ pu_t190_294 (fun h161 => ?_) (fun h161 => ?_)
                  · replace H := pu_t h161 H
                    exact H _ rfl _ rfl _ hz5 _ hz6
                  · replace H := pu_f h161 H
                    refine pu_iload_n rfl ?_
                    refine pu_bipush ?_
                    refine pu_ge_ pu_t190_294 (fun h162 => ?_) (fun h162 => ?_)
                    · replace H := pu_f h162 H
                      exact H _ rfl _ rfl _ hz5 _ hz6
                    · replace H := pu_t h162 H
                      refine pu_aload_n rfl ?_
                      refine pu_iload_n rfl ?_
                      refine pu_bipush ?_
                      refine pu_isub ?_
                      refine pu_iload rfl ?_
                      refine pu_cv (vs := [.int (y2 - 6), .int (D159.1 85 40)]) (rest := []) pu_g174 ⟨pu_c85, by decide⟩ rfl rfl rfl rfl rfl (pu_CI (pu_I_imp H (fun y163 D164 H => ?_)))
                      refine pu_pop rfl ?_
                      refine pu_iconst ?_
                      exact pu_iretZ pu_rt190 (by decide) H
                · replace H := pu_t h160 H
                  refine pu_iconst ?_
                  exact pu_iretZ pu_rt190 (by decide) H
            · replace H := pu_t h149 H
              refine pu_iconst ?_
              refine pu_goto pu_t190_243 ?_
              refine pu_iload_n rfl ?_
              refine pu_iconst ?_
              refine pu_ne_ pu_t190_253 (fun h165 => ?_) (fun h165 => ?_)
              · replace H := pu_f h165 H
                refine pu_bipush ?_
                refine pu_cv (vs := [.int 1, .int 119]) (rest := []) pu_g186 ⟨pu_c85, by decide⟩ rfl rfl rfl rfl rfl (pu_CI (pu_I_imp H (fun y166 D167 H => ?_)))
                refine pu_ne0 pu_t190_263 (fun h168 => ?_) (fun h168 => ?_)
                · replace H := pu_f h168 H
                  refine pu_aload_n rfl ?_
                  refine pu_getI pu_k8_40 pu_c85 ?_
                  refine pu_istore (L' := [.ref 85, .int (D.1 85 38), .int y2, .int 0, .int (D167.1 85 40), z5, z6]) (Or.inr rfl) rfl ?_
                  refine pu_iload_n rfl ?_
                  refine pu_bipush ?_
                  refine pu_lt_ pu_t190_294 (fun h169 => ?_) (fun h169 => ?_)
                  · replace H := pu_t h169 H
                    exact H _ rfl _ rfl _ hz5 _ hz6
                  · replace H := pu_f h169 H
                    refine pu_iload_n rfl ?_
                    refine pu_bipush ?_
                    refine pu_ge_ pu_t190_294 (fun h170 => ?_) (fun h170 => ?_)
                    · replace H := pu_f h170 H
                      exact H _ rfl _ rfl _ hz5 _ hz6
                    · replace H := pu_t h170 H
                      refine pu_aload_n rfl ?_
                      refine pu_iload_n rfl ?_
                      refine pu_bipush ?_
                      refine pu_isub ?_
                      refine pu_iload rfl ?_
                      refine pu_cv (vs := [.int (y2 - 6), .int (D167.1 85 40)]) (rest := []) pu_g174 ⟨pu_c85, by decide⟩ rfl rfl rfl rfl rfl (pu_CI (pu_I_imp H (fun y171 D172 H => ?_)))
                      refine pu_pop rfl ?_
                      refine pu_iconst ?_
                      exact pu_iretZ pu_rt190 (by decide) H
                · replace H := pu_t h168 H
                  refine pu_iconst ?_
                  exact pu_iretZ pu_rt190 (by decide) H
              · replace H := pu_t h165 H
                refine pu_bipush ?_
                refine pu_goto pu_t190_255 ?_
                refine pu_cv (vs := [.int 1, .int 12]) (rest := []) pu_g186 ⟨pu_c85, by decide⟩ rfl rfl rfl rfl rfl (pu_CI (pu_I_imp H (fun y173 D174 H => ?_)))
                refine pu_ne0 pu_t190_263 (fun h175 => ?_) (fun h175 => ?_)
                · replace H := pu_f h175 H
                  refine pu_aload_n rfl ?_
                  refine pu_getI pu_k8_40 pu_c85 ?_
                  refine pu_istore (L' := [.ref 85, .int (D.1 85 38), .int y2, .int 0, .int (D174.1 85 40), z5, z6]) (Or.inr rfl) rfl ?_
                  refine pu_iload_n rfl ?_
                  refine pu_bipush ?_
                  refine pu_lt_ pu_t190_294 (fun h176 => ?_) (fun h176 => ?_)
                  · replace H := pu_t h176 H
                    exact H _ rfl _ rfl _ hz5 _ hz6
                  · replace H := pu_f h176 H
                    refine pu_iload_n rfl ?_
                    refine pu_bipush ?_
                    refine pu_ge_ pu_t190_294 (fun h177 => ?_) (fun h177 => ?_)
                    · replace H := pu_f h177 H
                      exact H _ rfl _ rfl _ hz5 _ hz6
                    · replace H := pu_t h177 H
                      refine pu_aload_n rfl ?_
                      refine pu_iload_n rfl ?_
                      refine pu_bipush ?_
                      refine pu_isub ?_
                      refine pu_iload rfl ?_
                      refine pu_cv (vs := [.int (y2 - 6), .int (D174.1 85 40)]) (rest := []) pu_g174 ⟨pu_c85, by decide⟩ rfl rfl rfl rfl rfl (pu_CI (pu_I_imp H (fun y178 D179 H => ?_)))
                      refine pu_pop rfl ?_
                      refine pu_iconst ?_
                      exact pu_iretZ pu_rt190 (by decide) H
                · replace H := pu_t h175 H
                  refine pu_iconst ?_
                  exact pu_iretZ pu_rt190 (by decide) H
          · replace H := pu_t h148 H
            refine pu_iconst ?_
            refine pu_goto pu_t190_221 ?_
            refine pu_istore_n (L' := [.ref 85, .int (D.1 85 38), .int y2, .int 1, z4, z5, z6]) (Or.inr rfl) rfl ?_
            refine pu_iload_n rfl ?_
            refine pu_ifF (by decide) ?_
            refine pu_aload_n rfl ?_
            refine pu_iload_n rfl ?_
            refine pu_cv (vs := [.int (D.1 85 38)]) (rest := []) pu_g183 ⟨pu_c85, by decide⟩ rfl rfl rfl rfl rfl (pu_CI (pu_I_imp H (fun y180 D181 H => ?_)))
            exact pu_iretZ pu_rt190 H.1 H.2
      · replace H := pu_t h5 H
        refine pu_aload_n rfl ?_
        refine pu_iload_n rfl ?_
        refine pu_ne0 pu_t190_70 (fun h182 => ?_) (fun h182 => ?_)
        · replace H := pu_f h182 H
          refine pu_iconst ?_
          refine pu_iload_n rfl ?_
          refine pu_ne0 pu_t190_81 (fun h183 => ?_) (fun h183 => ?_)
          · replace H := pu_f h183 H
            refine pu_iload_n rfl ?_
            refine pu_iconst ?_
            refine pu_ne_ pu_t190_91 (fun h184 => ?_) (fun h184 => ?_)
            · replace H := pu_f h184 H
              refine pu_iload_n rfl ?_
              refine pu_iconst ?_
              refine pu_ne_ pu_t190_101 (fun h185 => ?_) (fun h185 => ?_)
              · replace H := pu_f h185 H
                refine pu_bipush ?_
                refine pu_cv (vs := [.int 1, .int 60]) (rest := []) pu_g186 ⟨pu_c85, by decide⟩ rfl rfl rfl rfl rfl (pu_CI (pu_I_imp H (fun y186 D187 H => ?_)))
                refine pu_ne0 pu_t190_111 (fun h188 => ?_) (fun h188 => ?_)
                · replace H := pu_f h188 H
                  refine pu_aload_n rfl ?_
                  refine pu_iload_n rfl ?_
                  refine pu_aload_n rfl ?_
                  refine pu_getI pu_k8_40 pu_c85 ?_
                  refine pu_cv (vs := [.int y2, .int (D187.1 85 40)]) (rest := []) pu_g181 ⟨pu_c85, by decide⟩ rfl rfl rfl rfl rfl (pu_CI (pu_I_imp H (fun y189 D190 H => ?_)))
                  refine pu_pop rfl ?_
                  refine pu_iconst ?_
                  exact pu_iretZ pu_rt190 (by decide) H
                · replace H := pu_t h188 H
                  refine pu_iconst ?_
                  exact pu_iretZ pu_rt190 (by decide) H
              · replace H := pu_t h185 H
                refine pu_bipush ?_
                refine pu_goto pu_t190_103 ?_
                refine pu_cv (vs := [.int 1, .int 12]) (rest := []) pu_g186 ⟨pu_c85, by decide⟩ rfl rfl rfl rfl rfl (pu_CI (pu_I_imp H (fun y191 D192 H => ?_)))
                refine pu_ne0 pu_t190_111 (fun h193 => ?_) (fun h193 => ?_)
                · replace H := pu_f h193 H
                  refine pu_aload_n rfl ?_
                  refine pu_iload_n rfl ?_
                  refine pu_aload_n rfl ?_
                  refine pu_getI pu_k8_40 pu_c85 ?_
                  refine pu_cv (vs := [.int y2, .int (D192.1 85 40)]) (rest := []) pu_g181 ⟨pu_c85, by decide⟩ rfl rfl rfl rfl rfl (pu_CI (pu_I_imp H (fun y194 D195 H => ?_)))
                  refine pu_pop rfl ?_
                  refine pu_iconst ?_
                  exact pu_iretZ pu_rt190 (by decide) H
                · replace H := pu_t h193 H
                  refine pu_iconst ?_
                  exact pu_iretZ pu_rt190 (by decide) H
            · replace H := pu_t h184 H
              refine pu_bipush ?_
              refine pu_goto pu_t190_103 ?_
              refine pu_cv (vs := [.int 1, .int 99]) (rest := []) pu_g186 ⟨pu_c85, by decide⟩ rfl rfl rfl rfl rfl (pu_CI (pu_I_imp H (fun y196 D197 H => ?_)))
              refine pu_ne0 pu_t190_111 (fun h198 => ?_) (fun h198 => ?_)
              · replace H := pu_f h198 H
                refine pu_aload_n rfl ?_
                refine pu_iload_n rfl ?_
                refine pu_aload_n rfl ?_
                refine pu_getI pu_k8_40 pu_c85 ?_
                refine pu_cv (vs := [.int y2, .int (D197.1 85 40)]) (rest := []) pu_g181 ⟨pu_c85, by decide⟩ rfl rfl rfl rfl rfl (pu_CI (pu_I_imp H (fun y199 D200 H => ?_)))
                refine pu_pop rfl ?_
                refine pu_iconst ?_
                exact pu_iretZ pu_rt190 (by decide) H
              · replace H := pu_t h198 H
                refine pu_iconst ?_
                exact pu_iretZ pu_rt190 (by decide) H
          · replace H := pu_t h183 H
            refine pu_sipush ?_
            refine pu_goto pu_t190_103 ?_
            refine pu_cv (vs := [.int 1, .int 999]) (rest := []) pu_g186 ⟨pu_c85, by decide⟩ rfl rfl rfl rfl rfl (pu_CI (pu_I_imp H (fun y201 D202 H => ?_)))
            refine pu_ne0 pu_t190_111 (fun h203 => ?_) (fun h203 => ?_)
            · replace H := pu_f h203 H
              refine pu_aload_n rfl ?_
              refine pu_iload_n rfl ?_
              refine pu_aload_n rfl ?_
              refine pu_getI pu_k8_40 pu_c85 ?_
              refine pu_cv (vs := [.int y2, .int (D202.1 85 40)]) (rest := []) pu_g181 ⟨pu_c85, by decide⟩ rfl rfl rfl rfl rfl (pu_CI (pu_I_imp H (fun y204 D205 H => ?_)))
              refine pu_pop rfl ?_
              refine pu_iconst ?_
              exact pu_iretZ pu_rt190 (by decide) H
            · replace H := pu_t h203 H
              refine pu_iconst ?_
              exact pu_iretZ pu_rt190 (by decide) H
        · replace H := pu_t h182 H
          refine pu_iconst ?_
          refine pu_goto pu_t190_71 ?_
          refine pu_iload_n rfl ?_
          refine pu_ne0 pu_t190_81 (fun h206 => ?_) (fun h206 => ?_)
          · replace H := pu_f h206 H
            refine pu_iload_n rfl ?_
            refine pu_iconst ?_
            refine pu_ne_ pu_t190_91 (fun h207 => ?_) (fun h207 => ?_)
            · replace H := pu_f h207 H
              refine pu_iload_n rfl ?_
              refine pu_iconst ?_
              refine pu_ne_ pu_t190_101 (fun h208 => ?_) (fun h208 => ?_)
              · replace H := pu_f h208 H
                refine pu_bipush ?_
                refine pu_cv (vs := [.int 0, .int 60]) (rest := []) pu_g186 ⟨pu_c85, by decide⟩ rfl rfl rfl rfl rfl (pu_CI (pu_I_imp H (fun y209 D210 H => ?_)))
                refine pu_ne0 pu_t190_111 (fun h211 => ?_) (fun h211 => ?_)
                · replace H := pu_f h211 H
                  refine pu_aload_n rfl ?_
                  refine pu_iload_n rfl ?_
                  refine pu_aload_n rfl ?_
                  refine pu_getI pu_k8_40 pu_c85 ?_
                  refine pu_cv (vs := [.int y2, .int (D210.1 85 40)]) (rest := []) pu_g181 ⟨pu_c85, by decide⟩ rfl rfl rfl rfl rfl (pu_CI (pu_I_imp H (fun y212 D213 H => ?_)))
                  refine pu_pop rfl ?_
                  refine pu_iconst ?_
                  exact pu_iretZ pu_rt190 (by decide) H
                · replace H := pu_t h211 H
                  refine pu_iconst ?_
                  exact pu_iretZ pu_rt190 (by decide) H
              · replace H := pu_t h208 H
                refine pu_bipush ?_
                refine pu_goto pu_t190_103 ?_
                refine pu_cv (vs := [.int 0, .int 12]) (rest := []) pu_g186 ⟨pu_c85, by decide⟩ rfl rfl rfl rfl rfl (pu_CI (pu_I_imp H (fun y214 D215 H => ?_)))
                refine pu_ne0 pu_t190_111 (fun h216 => ?_) (fun h216 => ?_)
                · replace H := pu_f h216 H
                  refine pu_aload_n rfl ?_
                  refine pu_iload_n rfl ?_
                  refine pu_aload_n rfl ?_
                  refine pu_getI pu_k8_40 pu_c85 ?_
                  refine pu_cv (vs := [.int y2, .int (D215.1 85 40)]) (rest := []) pu_g181 ⟨pu_c85, by decide⟩ rfl rfl rfl rfl rfl (pu_CI (pu_I_imp H (fun y217 D218 H => ?_)))
                  refine pu_pop rfl ?_
                  refine pu_iconst ?_
                  exact pu_iretZ pu_rt190 (by decide) H
                · replace H := pu_t h216 H
                  refine pu_iconst ?_
                  exact pu_iretZ pu_rt190 (by decide) H
            · replace H := pu_t h207 H
              refine pu_bipush ?_
              refine pu_goto pu_t190_103 ?_
              refine pu_cv (vs := [.int 0, .int 99]) (rest := []) pu_g186 ⟨pu_c85, by decide⟩ rfl rfl rfl rfl rfl (pu_CI (pu_I_imp H (fun y219 D220 H => ?_)))
              refine pu_ne0 pu_t190_111 (fun h221 => ?_) (fun h221 => ?_)
              · replace H := pu_f h221 H
                refine pu_aload_n rfl ?_
                refine pu_iload_n rfl ?_
                refine pu_aload_n rfl ?_
                refine pu_getI pu_k8_40 pu_c85 ?_
                refine pu_cv (vs := [.int y2, .int (D220.1 85 40)]) (rest := []) pu_g181 ⟨pu_c85, by decide⟩ rfl rfl rfl rfl rfl (pu_CI (pu_I_imp H (fun y222 D223 H => ?_)))
                refine pu_pop rfl ?_
                refine pu_iconst ?_
                exact pu_iretZ pu_rt190 (by decide) H
              · replace H := pu_t h221 H
                refine pu_iconst ?_
                exact pu_iretZ pu_rt190 (by decide) H
          · replace H := pu_t h206 H
            refine pu_sipush ?_
            refine pu_goto pu_t190_103 ?_
            refine pu_cv (vs := [.int 0, .int 999]) (rest := []) pu_g186 ⟨pu_c85, by decide⟩ rfl rfl rfl rfl rfl (pu_CI (pu_I_imp H (fun y224 D225 H => ?_)))
            refine pu_ne0 pu_t190_111 (fun h226 => ?_) (fun h226 => ?_)
            · replace H := pu_f h226 H
              refine pu_aload_n rfl ?_
              refine pu_iload_n rfl ?_
              refine pu_aload_n rfl ?_
              refine pu_getI pu_k8_40 pu_c85 ?_
              refine pu_cv (vs := [.int y2, .int (D225.1 85 40)]) (rest := []) pu_g181 ⟨pu_c85, by decide⟩ rfl rfl rfl rfl rfl (pu_CI (pu_I_imp H (fun y227 D228 H => ?_)))
              refine pu_pop rfl ?_
              refine pu_iconst ?_
              exact pu_iretZ pu_rt190 (by decide) H
            · replace H := pu_t h226 H
              refine pu_iconst ?_
              exact pu_iretZ pu_rt190 (by decide) H
    · replace H := pu_t h4 H
      refine pu_iconst ?_
      exact pu_iretZ pu_rt190 (by decide) H
  · replace H := pu_t h1 H
    refine pu_aload_n rfl ?_
    refine pu_iload_n rfl ?_
    refine pu_cv (vs := [.int x1]) (rest := []) pu_g189 ⟨pu_c85, by decide⟩ rfl rfl rfl rfl rfl (pu_CI (pu_I_imp H (fun y229 D230 H => ?_)))
    refine pu_eq0 pu_t190_33 (fun h231 => ?_) (fun h231 => ?_)
    · replace H := pu_t h231 H
      exact H _ hz2 _ hz3 _ hz4 _ hz5 _ hz6
    · replace H := pu_f h231 H
      refine pu_aload_n rfl ?_
      refine pu_iload_n rfl ?_
      refine pu_cv (vs := [.int x1]) (rest := []) pu_g188 ⟨pu_c85, by decide⟩ rfl rfl rfl rfl rfl (pu_CI (pu_I_imp H (fun y232 D233 H => ?_)))
      refine pu_eq0 pu_t190_33 (fun h234 => ?_) (fun h234 => ?_)
      · replace H := pu_t h234 H
        exact H _ hz2 _ hz3 _ hz4 _ hz5 _ hz6
      · replace H := pu_f h234 H
        refine pu_aload_n rfl ?_
        refine pu_aload_n rfl ?_
        refine pu_getI pu_k8_38 pu_c85 ?_
        refine pu_cv (vs := [.int (D233.1 85 38)]) (rest := []) pu_g183 ⟨pu_c85, by decide⟩ rfl rfl rfl rfl rfl (pu_CI (pu_I_imp H (fun y235 D236 H => ?_)))
        exact pu_iretZ pu_rt190 H.1 H.2
theorem pu_u190_294 {X : px_X} {x2 : Int32} {x4 : Int32} {D : pu_D} {P : Int32 → pu_D → Prop} 
    (H : if x2 = 4 then (if x2 = 4 then (pu_I X 187 [.ref 85, .int 1, .int 99] D (fun y239 D240 => if y239 = 0 then (P 0 D240) else (if x2 = 5 then (pu_I X 171 [.ref 85, .int x4, .int (D240.1 85 40)] D240 (fun y260 D261 => P 1 D261)) else (if x2 = 9 then (pu_I X 176 [.ref 85, .int x4, .int (D240.1 85 40)] D240 (fun y258 D259 => P 1 D259)) else (if x2 = 10 then (pu_I X 187 [.ref 85, .int 0, .int 11] D240 (fun y253 D254 => if y253 = 0 then (P 0 D254) else (pu_I X 178 [.ref 85, .int x4, .int (D240.1 85 40), .int (D254.1 85 40)] D254 (fun y256 D257 => P 1 D257)))) else (pu_I X 187 [.ref 85, .int 0, .int 99] D240 (fun y245 D246 => if y245 = 0 then (P 0 D246) else (pu_I X 187 [.ref 85, .int 1, .int 99] D246 (fun y248 D249 => if y248 = 0 then (P 0 D249) else (pu_I X 169 [.ref 85, .int x4, .int (D240.1 85 40), .int (D246.1 85 40), .int (D249.1 85 40)] D249 (fun y251 D252 => P 1 D252))))))))))) else (if x2 = 5 then (pu_I X 187 [.ref 85, .int 1, .int 99] D (fun y286 D287 => if y286 = 0 then (P 0 D287) else (if x2 = 5 then (pu_I X 171 [.ref 85, .int x4, .int (D287.1 85 40)] D287 (fun y307 D308 => P 1 D308)) else (if x2 = 9 then (pu_I X 176 [.ref 85, .int x4, .int (D287.1 85 40)] D287 (fun y305 D306 => P 1 D306)) else (if x2 = 10 then (pu_I X 187 [.ref 85, .int 0, .int 11] D287 (fun y300 D301 => if y300 = 0 then (P 0 D301) else (pu_I X 178 [.ref 85, .int x4, .int (D287.1 85 40), .int (D301.1 85 40)] D301 (fun y303 D304 => P 1 D304)))) else (pu_I X 187 [.ref 85, .int 0, .int 99] D287 (fun y292 D293 => if y292 = 0 then (P 0 D293) else (pu_I X 187 [.ref 85, .int 1, .int 99] D293 (fun y295 D296 => if y295 = 0 then (P 0 D296) else (pu_I X 169 [.ref 85, .int x4, .int (D287.1 85 40), .int (D293.1 85 40), .int (D296.1 85 40)] D296 (fun y298 D299 => P 1 D299))))))))))) else (pu_I X 187 [.ref 85, .int 1, .int 999] D (fun y263 D264 => if y263 = 0 then (P 0 D264) else (if x2 = 5 then (pu_I X 171 [.ref 85, .int x4, .int (D264.1 85 40)] D264 (fun y284 D285 => P 1 D285)) else (if x2 = 9 then (pu_I X 176 [.ref 85, .int x4, .int (D264.1 85 40)] D264 (fun y282 D283 => P 1 D283)) else (if x2 = 10 then (pu_I X 187 [.ref 85, .int 0, .int 11] D264 (fun y277 D278 => if y277 = 0 then (P 0 D278) else (pu_I X 178 [.ref 85, .int x4, .int (D264.1 85 40), .int (D278.1 85 40)] D278 (fun y280 D281 => P 1 D281)))) else (pu_I X 187 [.ref 85, .int 0, .int 99] D264 (fun y269 D270 => if y269 = 0 then (P 0 D270) else (pu_I X 187 [.ref 85, .int 1, .int 99] D270 (fun y272 D273 => if y272 = 0 then (P 0 D273) else (pu_I X 169 [.ref 85, .int x4, .int (D264.1 85 40), .int (D270.1 85 40), .int (D273.1 85 40)] D273 (fun y275 D276 => P 1 D276))))))))))))) else (if x2 = 10 then (if x2 = 4 then (pu_I X 187 [.ref 85, .int 1, .int 99] D (fun y382 D383 => if y382 = 0 then (P 0 D383) else (if x2 = 5 then (pu_I X 171 [.ref 85, .int x4, .int (D383.1 85 40)] D383 (fun y403 D404 => P 1 D404)) else (if x2 = 9 then (pu_I X 176 [.ref 85, .int x4, .int (D383.1 85 40)] D383 (fun y401 D402 => P 1 D402)) else (if x2 = 10 then (pu_I X 187 [.ref 85, .int 0, .int 11] D383 (fun y396 D397 => if y396 = 0 then (P 0 D397) else (pu_I X 178 [.ref 85, .int x4, .int (D383.1 85 40), .int (D397.1 85 40)] D397 (fun y399 D400 => P 1 D400)))) else (pu_I X 187 [.ref 85, .int 0, .int 99] D383 (fun y388 D389 => if y388 = 0 then (P 0 D389) else (pu_I X 187 [.ref 85, .int 1, .int 99] D389 (fun y391 D392 => if y391 = 0 then (P 0 D392) else (pu_I X 169 [.ref 85, .int x4, .int (D383.1 85 40), .int (D389.1 85 40), .int (D392.1 85 40)] D392 (fun y394 D395 => P 1 D395))))))))))) else (if x2 = 5 then (pu_I X 187 [.ref 85, .int 1, .int 99] D (fun y429 D430 => if y429 = 0 then (P 0 D430) else (if x2 = 5 then (pu_I X 171 [.ref 85, .int x4, .int (D430.1 85 40)] D430 (fun y450 D451 => P 1 D451)) else (if x2 = 9 then (pu_I X 176 [.ref 85, .int x4, .int (D430.1 85 40)] D430 (fun y448 D449 => P 1 D449)) else (if x2 = 10 then (pu_I X 187 [.ref 85, .int 0, .int 11] D430 (fun y443 D444 => if y443 = 0 then (P 0 D444) else (pu_I X 178 [.ref 85, .int x4, .int (D430.1 85 40), .int (D444.1 85 40)] D444 (fun y446 D447 => P 1 D447)))) else (pu_I X 187 [.ref 85, .int 0, .int 99] D430 (fun y435 D436 => if y435 = 0 then (P 0 D436) else (pu_I X 187 [.ref 85, .int 1, .int 99] D436 (fun y438 D439 => if y438 = 0 then (P 0 D439) else (pu_I X 169 [.ref 85, .int x4, .int (D430.1 85 40), .int (D436.1 85 40), .int (D439.1 85 40)] D439 (fun y441 D442 => P 1 D442))))))))))) else (pu_I X 187 [.ref 85, .int 1, .int 999] D (fun y406 D407 => if y406 = 0 then (P 0 D407) else (if x2 = 5 then (pu_I X 171 [.ref 85, .int x4, .int (D407.1 85 40)] D407 (fun y427 D428 => P 1 D428)) else (if x2 = 9 then (pu_I X 176 [.ref 85, .int x4, .int (D407.1 85 40)] D407 (fun y425 D426 => P 1 D426)) else (if x2 = 10 then (pu_I X 187 [.ref 85, .int 0, .int 11] D407 (fun y420 D421 => if y420 = 0 then (P 0 D421) else (pu_I X 178 [.ref 85, .int x4, .int (D407.1 85 40), .int (D421.1 85 40)] D421 (fun y423 D424 => P 1 D424)))) else (pu_I X 187 [.ref 85, .int 0, .int 99] D407 (fun y412 D413 => if y412 = 0 then (P 0 D413) else (pu_I X 187 [.ref 85, .int 1, .int 99] D413 (fun y415 D416 => if y415 = 0 then (P 0 D416) else (pu_I X 169 [.ref 85, .int x4, .int (D407.1 85 40), .int (D413.1 85 40), .int (D416.1 85 40)] D416 (fun y418 D419 => P 1 D419))))))))))))) else (if x2 = 4 then (pu_I X 187 [.ref 85, .int 0, .int 99] D (fun y311 D312 => if y311 = 0 then (P 0 D312) else (if x2 = 5 then (pu_I X 171 [.ref 85, .int x4, .int (D312.1 85 40)] D312 (fun y332 D333 => P 1 D333)) else (if x2 = 9 then (pu_I X 176 [.ref 85, .int x4, .int (D312.1 85 40)] D312 (fun y330 D331 => P 1 D331)) else (if x2 = 10 then (pu_I X 187 [.ref 85, .int 0, .int 11] D312 (fun y325 D326 => if y325 = 0 then (P 0 D326) else (pu_I X 178 [.ref 85, .int x4, .int (D312.1 85 40), .int (D326.1 85 40)] D326 (fun y328 D329 => P 1 D329)))) else (pu_I X 187 [.ref 85, .int 0, .int 99] D312 (fun y317 D318 => if y317 = 0 then (P 0 D318) else (pu_I X 187 [.ref 85, .int 1, .int 99] D318 (fun y320 D321 => if y320 = 0 then (P 0 D321) else (pu_I X 169 [.ref 85, .int x4, .int (D312.1 85 40), .int (D318.1 85 40), .int (D321.1 85 40)] D321 (fun y323 D324 => P 1 D324))))))))))) else (if x2 = 5 then (pu_I X 187 [.ref 85, .int 0, .int 99] D (fun y358 D359 => if y358 = 0 then (P 0 D359) else (if x2 = 5 then (pu_I X 171 [.ref 85, .int x4, .int (D359.1 85 40)] D359 (fun y379 D380 => P 1 D380)) else (if x2 = 9 then (pu_I X 176 [.ref 85, .int x4, .int (D359.1 85 40)] D359 (fun y377 D378 => P 1 D378)) else (if x2 = 10 then (pu_I X 187 [.ref 85, .int 0, .int 11] D359 (fun y372 D373 => if y372 = 0 then (P 0 D373) else (pu_I X 178 [.ref 85, .int x4, .int (D359.1 85 40), .int (D373.1 85 40)] D373 (fun y375 D376 => P 1 D376)))) else (pu_I X 187 [.ref 85, .int 0, .int 99] D359 (fun y364 D365 => if y364 = 0 then (P 0 D365) else (pu_I X 187 [.ref 85, .int 1, .int 99] D365 (fun y367 D368 => if y367 = 0 then (P 0 D368) else (pu_I X 169 [.ref 85, .int x4, .int (D359.1 85 40), .int (D365.1 85 40), .int (D368.1 85 40)] D368 (fun y370 D371 => P 1 D371))))))))))) else (pu_I X 187 [.ref 85, .int 0, .int 999] D (fun y335 D336 => if y335 = 0 then (P 0 D336) else (if x2 = 5 then (pu_I X 171 [.ref 85, .int x4, .int (D336.1 85 40)] D336 (fun y356 D357 => P 1 D357)) else (if x2 = 9 then (pu_I X 176 [.ref 85, .int x4, .int (D336.1 85 40)] D336 (fun y354 D355 => P 1 D355)) else (if x2 = 10 then (pu_I X 187 [.ref 85, .int 0, .int 11] D336 (fun y349 D350 => if y349 = 0 then (P 0 D350) else (pu_I X 178 [.ref 85, .int x4, .int (D336.1 85 40), .int (D350.1 85 40)] D350 (fun y352 D353 => P 1 D353)))) else (pu_I X 187 [.ref 85, .int 0, .int 99] D336 (fun y341 D342 => if y341 = 0 then (P 0 D342) else (pu_I X 187 [.ref 85, .int 1, .int 99] D342 (fun y344 D345 => if y344 = 0 then (P 0 D345) else (pu_I X 169 [.ref 85, .int x4, .int (D336.1 85 40), .int (D342.1 85 40), .int (D345.1 85 40)] D345 (fun y347 D348 => P 1 D348))))))))))))))) :
    pu_h190_294 X x2 x4 D P := by
  intro z1 hz1 z3 hz3 z5 hz5 z6 hz6
  refine pu_aload_n rfl ?_
  refine pu_iload_n rfl ?_
  refine pu_iconst ?_
  refine pu_eq_ pu_t190_306 (fun h237 => ?_) (fun h237 => ?_)
  · replace H := pu_t h237 H
    refine pu_iconst ?_
    refine pu_goto pu_t190_311 ?_
    refine pu_iload_n rfl ?_
    refine pu_iconst ?_
    refine pu_eq_ pu_t190_321 (fun h238 => ?_) (fun h238 => ?_)
    · replace H := pu_t h238 H
      refine pu_bipush ?_
      refine pu_goto pu_t190_329 ?_
      refine pu_cv (vs := [.int 1, .int 99]) (rest := []) pu_g187 ⟨pu_c85, by decide⟩ rfl rfl rfl rfl rfl (pu_CI (pu_I_imp H (fun y239 D240 H => ?_)))
      refine pu_ne0 pu_t190_337 (fun h241 => ?_) (fun h241 => ?_)
      · replace H := pu_f h241 H
        refine pu_aload_n rfl ?_
        refine pu_getI pu_k8_40 pu_c85 ?_
        refine pu_istore (L' := [.ref 85, z1, .int x2, z3, .int x4, .int (D240.1 85 40), z6]) (Or.inr rfl) rfl ?_
        refine pu_iload_n rfl ?_
        refine pu_iconst ?_
        refine pu_ne_ pu_t190_360 (fun h242 => ?_) (fun h242 => ?_)
        · replace H := pu_f h242 H
          refine pu_iload_n rfl ?_
          refine pu_bipush ?_
          refine pu_ne_ pu_t190_378 (fun h243 => ?_) (fun h243 => ?_)
          · replace H := pu_f h243 H
            refine pu_iload_n rfl ?_
            refine pu_bipush ?_
            refine pu_ne_ pu_t190_412 (fun h244 => ?_) (fun h244 => ?_)
            · replace H := pu_f h244 H
              refine pu_aload_n rfl ?_
              refine pu_iconst ?_
              refine pu_bipush ?_
              refine pu_cv (vs := [.int 0, .int 99]) (rest := []) pu_g187 ⟨pu_c85, by decide⟩ rfl rfl rfl rfl rfl (pu_CI (pu_I_imp H (fun y245 D246 H => ?_)))
              refine pu_ne0 pu_t190_424 (fun h247 => ?_) (fun h247 => ?_)
              · replace H := pu_f h247 H
                refine pu_aload_n rfl ?_
                refine pu_getI pu_k8_40 pu_c85 ?_
                refine pu_istore (L' := [.ref 85, z1, .int x2, z3, .int x4, .int (D240.1 85 40), .int (D246.1 85 40)]) (Or.inr rfl) rfl ?_
                refine pu_aload_n rfl ?_
                refine pu_iconst ?_
                refine pu_bipush ?_
                refine pu_cv (vs := [.int 1, .int 99]) (rest := []) pu_g187 ⟨pu_c85, by decide⟩ rfl rfl rfl rfl rfl (pu_CI (pu_I_imp H (fun y248 D249 H => ?_)))
                refine pu_ne0 pu_t190_442 (fun h250 => ?_) (fun h250 => ?_)
                · replace H := pu_f h250 H
                  refine pu_aload_n rfl ?_
                  refine pu_iload rfl ?_
                  refine pu_iload rfl ?_
                  refine pu_iload rfl ?_
                  refine pu_aload_n rfl ?_
                  refine pu_getI pu_k8_40 pu_c85 ?_
                  refine pu_cv (vs := [.int x4, .int (D240.1 85 40), .int (D246.1 85 40), .int (D249.1 85 40)]) (rest := []) pu_g169 ⟨pu_c85, by decide⟩ rfl rfl rfl rfl rfl (pu_CI (pu_I_imp H (fun y251 D252 H => ?_)))
                  refine pu_pop rfl ?_
                  refine pu_iconst ?_
                  exact pu_iretZ pu_rt190 (by decide) H
                · replace H := pu_t h250 H
                  refine pu_iconst ?_
                  exact pu_iretZ pu_rt190 (by decide) H
              · replace H := pu_t h247 H
                refine pu_iconst ?_
                exact pu_iretZ pu_rt190 (by decide) H
            · replace H := pu_t h244 H
              refine pu_aload_n rfl ?_
              refine pu_iconst ?_
              refine pu_bipush ?_
              refine pu_cv (vs := [.int 0, .int 11]) (rest := []) pu_g187 ⟨pu_c85, by decide⟩ rfl rfl rfl rfl rfl (pu_CI (pu_I_imp H (fun y253 D254 H => ?_)))
              refine pu_ne0 pu_t190_396 (fun h255 => ?_) (fun h255 => ?_)
              · replace H := pu_f h255 H
                refine pu_aload_n rfl ?_
                refine pu_iload rfl ?_
                refine pu_iload rfl ?_
                refine pu_aload_n rfl ?_
                refine pu_getI pu_k8_40 pu_c85 ?_
                refine pu_cv (vs := [.int x4, .int (D240.1 85 40), .int (D254.1 85 40)]) (rest := []) pu_g178 ⟨pu_c85, by decide⟩ rfl rfl rfl rfl rfl (pu_CI (pu_I_imp H (fun y256 D257 H => ?_)))
                refine pu_pop rfl ?_
                refine pu_goto pu_t190_457 ?_
                refine pu_iconst ?_
                exact pu_iretZ pu_rt190 (by decide) H
              · replace H := pu_t h255 H
                refine pu_iconst ?_
                exact pu_iretZ pu_rt190 (by decide) H
          · replace H := pu_t h243 H
            refine pu_aload_n rfl ?_
            refine pu_iload rfl ?_
            refine pu_iload rfl ?_
            refine pu_cv (vs := [.int x4, .int (D240.1 85 40)]) (rest := []) pu_g176 ⟨pu_c85, by decide⟩ rfl rfl rfl rfl rfl (pu_CI (pu_I_imp H (fun y258 D259 H => ?_)))
            refine pu_pop rfl ?_
            refine pu_goto pu_t190_457 ?_
            refine pu_iconst ?_
            exact pu_iretZ pu_rt190 (by decide) H
        · replace H := pu_t h242 H
          refine pu_aload_n rfl ?_
          refine pu_iload rfl ?_
          refine pu_iload rfl ?_
          refine pu_cv (vs := [.int x4, .int (D240.1 85 40)]) (rest := []) pu_g171 ⟨pu_c85, by decide⟩ rfl rfl rfl rfl rfl (pu_CI (pu_I_imp H (fun y260 D261 H => ?_)))
          refine pu_pop rfl ?_
          refine pu_goto pu_t190_457 ?_
          refine pu_iconst ?_
          exact pu_iretZ pu_rt190 (by decide) H
      · replace H := pu_t h241 H
        refine pu_iconst ?_
        exact pu_iretZ pu_rt190 (by decide) H
    · replace H := pu_f h238 H
      refine pu_iload_n rfl ?_
      refine pu_iconst ?_
      refine pu_ne_ pu_t190_326 (fun h262 => ?_) (fun h262 => ?_)
      · replace H := pu_f h262 H
        refine pu_sipush ?_
        refine pu_cv (vs := [.int 1, .int 999]) (rest := []) pu_g187 ⟨pu_c85, by decide⟩ rfl rfl rfl rfl rfl (pu_CI (pu_I_imp H (fun y263 D264 H => ?_)))
        refine pu_ne0 pu_t190_337 (fun h265 => ?_) (fun h265 => ?_)
        · replace H := pu_f h265 H
          refine pu_aload_n rfl ?_
          refine pu_getI pu_k8_40 pu_c85 ?_
          refine pu_istore (L' := [.ref 85, z1, .int x2, z3, .int x4, .int (D264.1 85 40), z6]) (Or.inr rfl) rfl ?_
          refine pu_iload_n rfl ?_
          refine pu_iconst ?_
          refine pu_ne_ pu_t190_360 (fun h266 => ?_) (fun h266 => ?_)
          · replace H := pu_f h266 H
            refine pu_iload_n rfl ?_
            refine pu_bipush ?_
            refine pu_ne_ pu_t190_378 (fun h267 => ?_) (fun h267 => ?_)
            · replace H := pu_f h267 H
              refine pu_iload_n rfl ?_
              refine pu_bipush ?_
              refine pu_ne_ pu_t190_412 (fun h268 => ?_) (fun h268 => ?_)
              · replace H := pu_f h268 H
                refine pu_aload_n rfl ?_
                refine pu_iconst ?_
                refine pu_bipush ?_
                refine pu_cv (vs := [.int 0, .int 99]) (rest := []) pu_g187 ⟨pu_c85, by decide⟩ rfl rfl rfl rfl rfl (pu_CI (pu_I_imp H (fun y269 D270 H => ?_)))
                refine pu_ne0 pu_t190_424 (fun h271 => ?_) (fun h271 => ?_)
                · replace H := pu_f h271 H
                  refine pu_aload_n rfl ?_
                  refine pu_getI pu_k8_40 pu_c85 ?_
                  refine pu_istore (L' := [.ref 85, z1, .int x2, z3, .int x4, .int (D264.1 85 40), .int (D270.1 85 40)]) (Or.inr rfl) rfl ?_
                  refine pu_aload_n rfl ?_
                  refine pu_iconst ?_
                  refine pu_bipush ?_
                  refine pu_cv (vs := [.int 1, .int 99]) (rest := []) pu_g187 ⟨pu_c85, by decide⟩ rfl rfl rfl rfl rfl (pu_CI (pu_I_imp H (fun y272 D273 H => ?_)))
                  refine pu_ne0 pu_t190_442 (fun h274 => ?_) (fun h274 => ?_)
                  · replace H := pu_f h274 H
                    refine pu_aload_n rfl ?_
                    refine pu_iload rfl ?_
                    refine pu_iload rfl ?_
                    refine pu_iload rfl ?_
                    refine pu_aload_n rfl ?_
                    refine pu_getI pu_k8_40 pu_c85 ?_
                    refine pu_cv (vs := [.int x4, .int (D264.1 85 40), .int (D270.1 85 40), .int (D273.1 85 40)]) (rest := []) pu_g169 ⟨pu_c85, by decide⟩ rfl rfl rfl rfl rfl (pu_CI (pu_I_imp H (fun y275 D276 H => ?_)))
                    refine pu_pop rfl ?_
                    refine pu_iconst ?_
                    exact pu_iretZ pu_rt190 (by decide) H
                  · replace H := pu_t h274 H
                    refine pu_iconst ?_
                    exact pu_iretZ pu_rt190 (by decide) H
                · replace H := pu_t h271 H
                  refine pu_iconst ?_
                  exact pu_iretZ pu_rt190 (by decide) H
              · replace H := pu_t h268 H
                refine pu_aload_n rfl ?_
                refine pu_iconst ?_
                refine pu_bipush ?_
                refine pu_cv (vs := [.int 0, .int 11]) (rest := []) pu_g187 ⟨pu_c85, by decide⟩ rfl rfl rfl rfl rfl (pu_CI (pu_I_imp H (fun y277 D278 H => ?_)))
                refine pu_ne0 pu_t190_396 (fun h279 => ?_) (fun h279 => ?_)
                · replace H := pu_f h279 H
                  refine pu_aload_n rfl ?_
                  refine pu_iload rfl ?_
                  refine pu_iload rfl ?_
                  refine pu_aload_n rfl ?_
                  refine pu_getI pu_k8_40 pu_c85 ?_
                  refine pu_cv (vs := [.int x4, .int (D264.1 85 40), .int (D278.1 85 40)]) (rest := []) pu_g178 ⟨pu_c85, by decide⟩ rfl rfl rfl rfl rfl (pu_CI (pu_I_imp H (fun y280 D281 H => ?_)))
                  refine pu_pop rfl ?_
                  refine pu_goto pu_t190_457 ?_
                  refine pu_iconst ?_
                  exact pu_iretZ pu_rt190 (by decide) H
                · replace H := pu_t h279 H
                  refine pu_iconst ?_
                  exact pu_iretZ pu_rt190 (by decide) H
            · replace H := pu_t h267 H
              refine pu_aload_n rfl ?_
              refine pu_iload rfl ?_
              refine pu_iload rfl ?_
              refine pu_cv (vs := [.int x4, .int (D264.1 85 40)]) (rest := []) pu_g176 ⟨pu_c85, by decide⟩ rfl rfl rfl rfl rfl (pu_CI (pu_I_imp H (fun y282 D283 H => ?_)))
              refine pu_pop rfl ?_
              refine pu_goto pu_t190_457 ?_
              refine pu_iconst ?_
              exact pu_iretZ pu_rt190 (by decide) H
          · replace H := pu_t h266 H
            refine pu_aload_n rfl ?_
            refine pu_iload rfl ?_
            refine pu_iload rfl ?_
            refine pu_cv (vs := [.int x4, .int (D264.1 85 40)]) (rest := []) pu_g171 ⟨pu_c85, by decide⟩ rfl rfl rfl rfl rfl (pu_CI (pu_I_imp H (fun y284 D285 H => ?_)))
            refine pu_pop rfl ?_
            refine pu_goto pu_t190_457 ?_
            refine pu_iconst ?_
            exact pu_iretZ pu_rt190 (by decide) H
        · replace H := pu_t h265 H
          refine pu_iconst ?_
          exact pu_iretZ pu_rt190 (by decide) H
      · replace H := pu_t h262 H
        refine pu_bipush ?_
        refine pu_goto pu_t190_329 ?_
        refine pu_cv (vs := [.int 1, .int 99]) (rest := []) pu_g187 ⟨pu_c85, by decide⟩ rfl rfl rfl rfl rfl (pu_CI (pu_I_imp H (fun y286 D287 H => ?_)))
        refine pu_ne0 pu_t190_337 (fun h288 => ?_) (fun h288 => ?_)
        · replace H := pu_f h288 H
          refine pu_aload_n rfl ?_
          refine pu_getI pu_k8_40 pu_c85 ?_
          refine pu_istore (L' := [.ref 85, z1, .int x2, z3, .int x4, .int (D287.1 85 40), z6]) (Or.inr rfl) rfl ?_
          refine pu_iload_n rfl ?_
          refine pu_iconst ?_
          refine pu_ne_ pu_t190_360 (fun h289 => ?_) (fun h289 => ?_)
          · replace H := pu_f h289 H
            refine pu_iload_n rfl ?_
            refine pu_bipush ?_
            refine pu_ne_ pu_t190_378 (fun h290 => ?_) (fun h290 => ?_)
            · replace H := pu_f h290 H
              refine pu_iload_n rfl ?_
              refine pu_bipush ?_
              refine pu_ne_ pu_t190_412 (fun h291 => ?_) (fun h291 => ?_)
              · replace H := pu_f h291 H
                refine pu_aload_n rfl ?_
                refine pu_iconst ?_
                refine pu_bipush ?_
                refine pu_cv (vs := [.int 0, .int 99]) (rest := []) pu_g187 ⟨pu_c85, by decide⟩ rfl rfl rfl rfl rfl (pu_CI (pu_I_imp H (fun y292 D293 H => ?_)))
                refine pu_ne0 pu_t190_424 (fun h294 => ?_) (fun h294 => ?_)
                · replace H := pu_f h294 H
                  refine pu_aload_n rfl ?_
                  refine pu_getI pu_k8_40 pu_c85 ?_
                  refine pu_istore (L' := [.ref 85, z1, .int x2, z3, .int x4, .int (D287.1 85 40), .int (D293.1 85 40)]) (Or.inr rfl) rfl ?_
                  refine pu_aload_n rfl ?_
                  refine pu_iconst ?_
                  refine pu_bipush ?_
                  refine pu_cv (vs := [.int 1, .int 99]) (rest := []) pu_g187 ⟨pu_c85, by decide⟩ rfl rfl rfl rfl rfl (pu_CI (pu_I_imp H (fun y295 D296 H => ?_)))
                  refine pu_ne0 pu_t190_442 (fun h297 => ?_) (fun h297 => ?_)
                  · replace H := pu_f h297 H
                    refine pu_aload_n rfl ?_
                    refine pu_iload rfl ?_
                    refine pu_iload rfl ?_
                    refine pu_iload rfl ?_
                    refine pu_aload_n rfl ?_
                    refine pu_getI pu_k8_40 pu_c85 ?_
                    refine pu_cv (vs := [.int x4, .int (D287.1 85 40), .int (D293.1 85 40), .int (D296.1 85 40)]) (rest := []) pu_g169 ⟨pu_c85, by decide⟩ rfl rfl rfl rfl rfl (pu_CI (pu_I_imp H (fun y298 D299 H => ?_)))
                    refine pu_pop rfl ?_
                    refine pu_iconst ?_
                    exact pu_iretZ pu_rt190 (by decide) H
                  · replace H := pu_t h297 H
                    refine pu_iconst ?_
                    exact pu_iretZ pu_rt190 (by decide) H
                · replace H := pu_t h294 H
                  refine pu_iconst ?_
                  exact pu_iretZ pu_rt190 (by decide) H
              · replace H := pu_t h291 H
                refine pu_aload_n rfl ?_
                refine pu_iconst ?_
                refine pu_bipush ?_
                refine pu_cv (vs := [.int 0, .int 11]) (rest := []) pu_g187 ⟨pu_c85, by decide⟩ rfl rfl rfl rfl rfl (pu_CI (pu_I_imp H (fun y300 D301 H => ?_)))
                refine pu_ne0 pu_t190_396 (fun h302 => ?_) (fun h302 => ?_)
                · replace H := pu_f h302 H
                  refine pu_aload_n rfl ?_
                  refine pu_iload rfl ?_
                  refine pu_iload rfl ?_
                  refine pu_aload_n rfl ?_
                  refine pu_getI pu_k8_40 pu_c85 ?_
                  refine pu_cv (vs := [.int x4, .int (D287.1 85 40), .int (D301.1 85 40)]) (rest := []) pu_g178 ⟨pu_c85, by decide⟩ rfl rfl rfl rfl rfl (pu_CI (pu_I_imp H (fun y303 D304 H => ?_)))
                  refine pu_pop rfl ?_
                  refine pu_goto pu_t190_457 ?_
                  refine pu_iconst ?_
                  exact pu_iretZ pu_rt190 (by decide) H
                · replace H := pu_t h302 H
                  refine pu_iconst ?_
                  exact pu_iretZ pu_rt190 (by decide) H
            · replace H := pu_t h290 H
              refine pu_aload_n rfl ?_
              refine pu_iload rfl ?_
              refine pu_iload rfl ?_
              refine pu_cv (vs := [.int x4, .int (D287.1 85 40)]) (rest := []) pu_g176 ⟨pu_c85, by decide⟩ rfl rfl rfl rfl rfl (pu_CI (pu_I_imp H (fun y305 D306 H => ?_)))
              refine pu_pop rfl ?_
              refine pu_goto pu_t190_457 ?_
              refine pu_iconst ?_
              exact pu_iretZ pu_rt190 (by decide) H
          · replace H := pu_t h289 H
            refine pu_aload_n rfl ?_
            refine pu_iload rfl ?_
            refine pu_iload rfl ?_
            refine pu_cv (vs := [.int x4, .int (D287.1 85 40)]) (rest := []) pu_g171 ⟨pu_c85, by decide⟩ rfl rfl rfl rfl rfl (pu_CI (pu_I_imp H (fun y307 D308 H => ?_)))
            refine pu_pop rfl ?_
            refine pu_goto pu_t190_457 ?_
            refine pu_iconst ?_
            exact pu_iretZ pu_rt190 (by decide) H
        · replace H := pu_t h288 H
          refine pu_iconst ?_
          exact pu_iretZ pu_rt190 (by decide) H
  · replace H := pu_f h237 H
    refine pu_iload_n rfl ?_
    refine pu_bipush ?_
    refine pu_ne_ pu_t190_310 (fun h309 => ?_) (fun h309 => ?_)
    · replace H := pu_f h309 H
      refine pu_iconst ?_
      refine pu_iload_n rfl ?_
      refine pu_iconst ?_
      refine pu_eq_ pu_t190_321 (fun h310 => ?_) (fun h310 => ?_)
      · replace H := pu_t h310 H
        refine pu_bipush ?_
        refine pu_goto pu_t190_329 ?_
        refine pu_cv (vs := [.int 0, .int 99]) (rest := []) pu_g187 ⟨pu_c85, by decide⟩ rfl rfl rfl rfl rfl (pu_CI (pu_I_imp H (fun y311 D312 H => ?_)))
        refine pu_ne0 pu_t190_337 (fun h313 => ?_) (fun h313 => ?_)
        · replace H := pu_f h313 H
          refine pu_aload_n rfl ?_
          refine pu_getI pu_k8_40 pu_c85 ?_
          refine pu_istore (L' := [.ref 85, z1, .int x2, z3, .int x4, .int (D312.1 85 40), z6]) (Or.inr rfl) rfl ?_
          refine pu_iload_n rfl ?_
          refine pu_iconst ?_
          refine pu_ne_ pu_t190_360 (fun h314 => ?_) (fun h314 => ?_)
          · replace H := pu_f h314 H
            refine pu_iload_n rfl ?_
            refine pu_bipush ?_
            refine pu_ne_ pu_t190_378 (fun h315 => ?_) (fun h315 => ?_)
            · replace H := pu_f h315 H
              refine pu_iload_n rfl ?_
              refine pu_bipush ?_
              refine pu_ne_ pu_t190_412 (fun h316 => ?_) (fun h316 => ?_)
              · replace H := pu_f h316 H
                refine pu_aload_n rfl ?_
                refine pu_iconst ?_
                refine pu_bipush ?_
                refine pu_cv (vs := [.int 0, .int 99]) (rest := []) pu_g187 ⟨pu_c85, by decide⟩ rfl rfl rfl rfl rfl (pu_CI (pu_I_imp H (fun y317 D318 H => ?_)))
                refine pu_ne0 pu_t190_424 (fun h319 => ?_) (fun h319 => ?_)
                · replace H := pu_f h319 H
                  refine pu_aload_n rfl ?_
                  refine pu_getI pu_k8_40 pu_c85 ?_
                  refine pu_istore (L' := [.ref 85, z1, .int x2, z3, .int x4, .int (D312.1 85 40), .int (D318.1 85 40)]) (Or.inr rfl) rfl ?_
                  refine pu_aload_n rfl ?_
                  refine pu_iconst ?_
                  refine pu_bipush ?_
                  refine pu_cv (vs := [.int 1, .int 99]) (rest := []) pu_g187 ⟨pu_c85, by decide⟩ rfl rfl rfl rfl rfl (pu_CI (pu_I_imp H (fun y320 D321 H => ?_)))
                  refine pu_ne0 pu_t190_442 (fun h322 => ?_) (fun h322 => ?_)
                  · replace H := pu_f h322 H
                    refine pu_aload_n rfl ?_
                    refine pu_iload rfl ?_
                    refine pu_iload rfl ?_
                    refine pu_iload rfl ?_
                    refine pu_aload_n rfl ?_
                    refine pu_getI pu_k8_40 pu_c85 ?_
                    refine pu_cv (vs := [.int x4, .int (D312.1 85 40), .int (D318.1 85 40), .int (D321.1 85 40)]) (rest := []) pu_g169 ⟨pu_c85, by decide⟩ rfl rfl rfl rfl rfl (pu_CI (pu_I_imp H (fun y323 D324 H => ?_)))
                    refine pu_pop rfl ?_
                    refine pu_iconst ?_
                    exact pu_iretZ pu_rt190 (by decide) H
                  · replace H := pu_t h322 H
                    refine pu_iconst ?_
                    exact pu_iretZ pu_rt190 (by decide) H
                · replace H := pu_t h319 H
                  refine pu_iconst ?_
                  exact pu_iretZ pu_rt190 (by decide) H
              · replace H := pu_t h316 H
                refine pu_aload_n rfl ?_
                refine pu_iconst ?_
                refine pu_bipush ?_
                refine pu_cv (vs := [.int 0, .int 11]) (rest := []) pu_g187 ⟨pu_c85, by decide⟩ rfl rfl rfl rfl rfl (pu_CI (pu_I_imp H (fun y325 D326 H => ?_)))
                refine pu_ne0 pu_t190_396 (fun h327 => ?_) (fun h327 => ?_)
                · replace H := pu_f h327 H
                  refine pu_aload_n rfl ?_
                  refine pu_iload rfl ?_
                  refine pu_iload rfl ?_
                  refine pu_aload_n rfl ?_
                  refine pu_getI pu_k8_40 pu_c85 ?_
                  refine pu_cv (vs := [.int x4, .int (D312.1 85 40), .int (D326.1 85 40)]) (rest := []) pu_g178 ⟨pu_c85, by decide⟩ rfl rfl rfl rfl rfl (pu_CI (pu_I_imp H (fun y328 D329 H => ?_)))
                  refine pu_pop rfl ?_
                  refine pu_goto pu_t190_457 ?_
                  refine pu_iconst ?_
                  exact pu_iretZ pu_rt190 (by decide) H
                · replace H := pu_t h327 H
                  refine pu_iconst ?_
                  exact pu_iretZ pu_rt190 (by decide) H
            · replace H := pu_t h315 H
              refine pu_aload_n rfl ?_
              refine pu_iload rfl ?_
              refine pu_iload rfl ?_
              refine pu_cv (vs := [.int x4, .int (D312.1 85 40)]) (rest := []) pu_g176 ⟨pu_c85, by decide⟩ rfl rfl rfl rfl rfl (pu_CI (pu_I_imp H (fun y330 D331 H => ?_)))
              refine pu_pop rfl ?_
              refine pu_goto pu_t190_457 ?_
              refine pu_iconst ?_
              exact pu_iretZ pu_rt190 (by decide) H
          · replace H := pu_t h314 H
            refine pu_aload_n rfl ?_
            refine pu_iload rfl ?_
            refine pu_iload rfl ?_
            refine pu_cv (vs := [.int x4, .int (D312.1 85 40)]) (rest := []) pu_g171 ⟨pu_c85, by decide⟩ rfl rfl rfl rfl rfl (pu_CI (pu_I_imp H (fun y332 D333 H => ?_)))
            refine pu_pop rfl ?_
            refine pu_goto pu_t190_457 ?_
            refine pu_iconst ?_
            exact pu_iretZ pu_rt190 (by decide) H
        · replace H := pu_t h313 H
          refine pu_iconst ?_
          exact pu_iretZ pu_rt190 (by decide) H
      · replace H := pu_f h310 H
        refine pu_iload_n rfl ?_
        refine pu_iconst ?_
        refine pu_ne_ pu_t190_326 (fun h334 => ?_) (fun h334 => ?_)
        · replace H := pu_f h334 H
          refine pu_sipush ?_
          refine pu_cv (vs := [.int 0, .int 999]) (rest := []) pu_g187 ⟨pu_c85, by decide⟩ rfl rfl rfl rfl rfl (pu_CI (pu_I_imp H (fun y335 D336 H => ?_)))
          refine pu_ne0 pu_t190_337 (fun h337 => ?_) (fun h337 => ?_)
          · replace H := pu_f h337 H
            refine pu_aload_n rfl ?_
            refine pu_getI pu_k8_40 pu_c85 ?_
            refine pu_istore (L' := [.ref 85, z1, .int x2, z3, .int x4, .int (D336.1 85 40), z6]) (Or.inr rfl) rfl ?_
            refine pu_iload_n rfl ?_
            refine pu_iconst ?_
            refine pu_ne_ pu_t190_360 (fun h338 => ?_) (fun h338 => ?_)
            · replace H := pu_f h338 H
              refine pu_iload_n rfl ?_
              refine pu_bipush ?_
              refine pu_ne_ pu_t190_378 (fun h339 => ?_) (fun h339 => ?_)
              · replace H := pu_f h339 H
                refine pu_iload_n rfl ?_
                refine pu_bipush ?_
                refine pu_ne_ pu_t190_412 (fun h340 => ?_) (fun h340 => ?_)
                · replace H := pu_f h340 H
                  refine pu_aload_n rfl ?_
                  refine pu_iconst ?_
                  refine pu_bipush ?_
                  refine pu_cv (vs := [.int 0, .int 99]) (rest := []) pu_g187 ⟨pu_c85, by decide⟩ rfl rfl rfl rfl rfl (pu_CI (pu_I_imp H (fun y341 D342 H => ?_)))
                  refine pu_ne0 pu_t190_424 (fun h343 => ?_) (fun h343 => ?_)
                  · replace H := pu_f h343 H
                    refine pu_aload_n rfl ?_
                    refine pu_getI pu_k8_40 pu_c85 ?_
                    refine pu_istore (L' := [.ref 85, z1, .int x2, z3, .int x4, .int (D336.1 85 40), .int (D342.1 85 40)]) (Or.inr rfl) rfl ?_
                    refine pu_aload_n rfl ?_
                    refine pu_iconst ?_
                    refine pu_bipush ?_
                    refine pu_cv (vs := [.int 1, .int 99]) (rest := []) pu_g187 ⟨pu_c85, by decide⟩ rfl rfl rfl rfl rfl (pu_CI (pu_I_imp H (fun y344 D345 H => ?_)))
                    refine pu_ne0 pu_t190_442 (fun h346 => ?_) (fun h346 => ?_)
                    · replace H := pu_f h346 H
                      refine pu_aload_n rfl ?_
                      refine pu_iload rfl ?_
                      refine pu_iload rfl ?_
                      refine pu_iload rfl ?_
                      refine pu_aload_n rfl ?_
                      refine pu_getI pu_k8_40 pu_c85 ?_
                      refine pu_cv (vs := [.int x4, .int (D336.1 85 40), .int (D342.1 85 40), .int (D345.1 85 40)]) (rest := []) pu_g169 ⟨pu_c85, by decide⟩ rfl rfl rfl rfl rfl (pu_CI (pu_I_imp H (fun y347 D348 H => ?_)))
                      refine pu_pop rfl ?_
                      refine pu_iconst ?_
                      exact pu_iretZ pu_rt190 (by decide) H
                    · replace H := pu_t h346 H
                      refine pu_iconst ?_
                      exact pu_iretZ pu_rt190 (by decide) H
                  · replace H := pu_t h343 H
                    refine pu_iconst ?_
                    exact pu_iretZ pu_rt190 (by decide) H
                · replace H := pu_t h340 H
                  refine pu_aload_n rfl ?_
                  refine pu_iconst ?_
                  refine pu_bipush ?_
                  refine pu_cv (vs := [.int 0, .int 11]) (rest := []) pu_g187 ⟨pu_c85, by decide⟩ rfl rfl rfl rfl rfl (pu_CI (pu_I_imp H (fun y349 D350 H => ?_)))
                  refine pu_ne0 pu_t190_396 (fun h351 => ?_) (fun h351 => ?_)
                  · replace H := pu_f h351 H
                    refine pu_aload_n rfl ?_
                    refine pu_iload rfl ?_
                    refine pu_iload rfl ?_
                    refine pu_aload_n rfl ?_
                    refine pu_getI pu_k8_40 pu_c85 ?_
                    refine pu_cv (vs := [.int x4, .int (D336.1 85 40), .int (D350.1 85 40)]) (rest := []) pu_g178 ⟨pu_c85, by decide⟩ rfl rfl rfl rfl rfl (pu_CI (pu_I_imp H (fun y352 D353 H => ?_)))
                    refine pu_pop rfl ?_
                    refine pu_goto pu_t190_457 ?_
                    refine pu_iconst ?_
                    exact pu_iretZ pu_rt190 (by decide) H
                  · replace H := pu_t h351 H
                    refine pu_iconst ?_
                    exact pu_iretZ pu_rt190 (by decide) H
              · replace H := pu_t h339 H
                refine pu_aload_n rfl ?_
                refine pu_iload rfl ?_
                refine pu_iload rfl ?_
                refine pu_cv (vs := [.int x4, .int (D336.1 85 40)]) (rest := []) pu_g176 ⟨pu_c85, by decide⟩ rfl rfl rfl rfl rfl (pu_CI (pu_I_imp H (fun y354 D355 H => ?_)))
                refine pu_pop rfl ?_
                refine pu_goto pu_t190_457 ?_
                refine pu_iconst ?_
                exact pu_iretZ pu_rt190 (by decide) H
            · replace H := pu_t h338 H
              refine pu_aload_n rfl ?_
              refine pu_iload rfl ?_
              refine pu_iload rfl ?_
              refine pu_cv (vs := [.int x4, .int (D336.1 85 40)]) (rest := []) pu_g171 ⟨pu_c85, by decide⟩ rfl rfl rfl rfl rfl (pu_CI (pu_I_imp H (fun y356 D357 H => ?_)))
              refine pu_pop rfl ?_
              refine pu_goto pu_t190_457 ?_
              refine pu_iconst ?_
              exact pu_iretZ pu_rt190 (by decide) H
          · replace H := pu_t h337 H
            refine pu_iconst ?_
            exact pu_iretZ pu_rt190 (by decide) H
        · replace H := pu_t h334 H
          refine pu_bipush ?_
          refine pu_goto pu_t190_329 ?_
          refine pu_cv (vs := [.int 0, .int 99]) (rest := []) pu_g187 ⟨pu_c85, by decide⟩ rfl rfl rfl rfl rfl (pu_CI (pu_I_imp H (fun y358 D359 H => ?_)))
          refine pu_ne0 pu_t190_337 (fun h360 => ?_) (fun h360 => ?_)
          · replace H := pu_f h360 H
            refine pu_aload_n rfl ?_
            refine pu_getI pu_k8_40 pu_c85 ?_
            refine pu_istore (L' := [.ref 85, z1, .int x2, z3, .int x4, .int (D359.1 85 40), z6]) (Or.inr rfl) rfl ?_
            refine pu_iload_n rfl ?_
            refine pu_iconst ?_
            refine pu_ne_ pu_t190_360 (fun h361 => ?_) (fun h361 => ?_)
            · replace H := pu_f h361 H
              refine pu_iload_n rfl ?_
              refine pu_bipush ?_
              refine pu_ne_ pu_t190_378 (fun h362 => ?_) (fun h362 => ?_)
              · replace H := pu_f h362 H
                refine pu_iload_n rfl ?_
                refine pu_bipush ?_
                refine pu_ne_ pu_t190_412 (fun h363 => ?_) (fun h363 => ?_)
                · replace H := pu_f h363 H
                  refine pu_aload_n rfl ?_
                  refine pu_iconst ?_
                  refine pu_bipush ?_
                  refine pu_cv (vs := [.int 0, .int 99]) (rest := []) pu_g187 ⟨pu_c85, by decide⟩ rfl rfl rfl rfl rfl (pu_CI (pu_I_imp H (fun y364 D365 H => ?_)))
                  refine pu_ne0 pu_t190_424 (fun h366 => ?_) (fun h366 => ?_)
                  · replace H := pu_f h366 H
                    refine pu_aload_n rfl ?_
                    refine pu_getI pu_k8_40 pu_c85 ?_
                    refine pu_istore (L' := [.ref 85, z1, .int x2, z3, .int x4, .int (D359.1 85 40), .int (D365.1 85 40)]) (Or.inr rfl) rfl ?_
                    refine pu_aload_n rfl ?_
                    refine pu_iconst ?_
                    refine pu_bipush ?_
                    refine pu_cv (vs := [.int 1, .int 99]) (rest := []) pu_g187 ⟨pu_c85, by decide⟩ rfl rfl rfl rfl rfl (pu_CI (pu_I_imp H (fun y367 D368 H => ?_)))
                    refine pu_ne0 pu_t190_442 (fun h369 => ?_) (fun h369 => ?_)
                    · replace H := pu_f h369 H
                      refine pu_aload_n rfl ?_
                      refine pu_iload rfl ?_
                      refine pu_iload rfl ?_
                      refine pu_iload rfl ?_
                      refine pu_aload_n rfl ?_
                      refine pu_getI pu_k8_40 pu_c85 ?_
                      refine pu_cv (vs := [.int x4, .int (D359.1 85 40), .int (D365.1 85 40), .int (D368.1 85 40)]) (rest := []) pu_g169 ⟨pu_c85, by decide⟩ rfl rfl rfl rfl rfl (pu_CI (pu_I_imp H (fun y370 D371 H => ?_)))
                      refine pu_pop rfl ?_
                      refine pu_iconst ?_
                      exact pu_iretZ pu_rt190 (by decide) H
                    · replace H := pu_t h369 H
                      refine pu_iconst ?_
                      exact pu_iretZ pu_rt190 (by decide) H
                  · replace H := pu_t h366 H
                    refine pu_iconst ?_
                    exact pu_iretZ pu_rt190 (by decide) H
                · replace H := pu_t h363 H
                  refine pu_aload_n rfl ?_
                  refine pu_iconst ?_
                  refine pu_bipush ?_
                  refine pu_cv (vs := [.int 0, .int 11]) (rest := []) pu_g187 ⟨pu_c85, by decide⟩ rfl rfl rfl rfl rfl (pu_CI (pu_I_imp H (fun y372 D373 H => ?_)))
                  refine pu_ne0 pu_t190_396 (fun h374 => ?_) (fun h374 => ?_)
                  · replace H := pu_f h374 H
                    refine pu_aload_n rfl ?_
                    refine pu_iload rfl ?_
                    refine pu_iload rfl ?_
                    refine pu_aload_n rfl ?_
                    refine pu_getI pu_k8_40 pu_c85 ?_
                    refine pu_cv (vs := [.int x4, .int (D359.1 85 40), .int (D373.1 85 40)]) (rest := []) pu_g178 ⟨pu_c85, by decide⟩ rfl rfl rfl rfl rfl (pu_CI (pu_I_imp H (fun y375 D376 H => ?_)))
                    refine pu_pop rfl ?_
                    refine pu_goto pu_t190_457 ?_
                    refine pu_iconst ?_
                    exact pu_iretZ pu_rt190 (by decide) H
                  · replace H := pu_t h374 H
                    refine pu_iconst ?_
                    exact pu_iretZ pu_rt190 (by decide) H
              · replace H := pu_t h362 H
                refine pu_aload_n rfl ?_
                refine pu_iload rfl ?_
                refine pu_iload rfl ?_
                refine pu_cv (vs := [.int x4, .int (D359.1 85 40)]) (rest := []) pu_g176 ⟨pu_c85, by decide⟩ rfl rfl rfl rfl rfl (pu_CI (pu_I_imp H (fun y377 D378 H => ?_)))
                refine pu_pop rfl ?_
                refine pu_goto pu_t190_457 ?_
                refine pu_iconst ?_
                exact pu_iretZ pu_rt190 (by decide) H
            · replace H := pu_t h361 H
              refine pu_aload_n rfl ?_
              refine pu_iload rfl ?_
              refine pu_iload rfl ?_
              refine pu_cv (vs := [.int x4, .int (D359.1 85 40)]) (rest := []) pu_g171 ⟨pu_c85, by decide⟩ rfl rfl rfl rfl rfl (pu_CI (pu_I_imp H (fun y379 D380 H => ?_)))
              refine pu_pop rfl ?_
              refine pu_goto pu_t190_457 ?_
              refine pu_iconst ?_
              exact pu_iretZ pu_rt190 (by decide) H
          · replace H := pu_t h360 H
            refine pu_iconst ?_
            exact pu_iretZ pu_rt190 (by decide) H
    · replace H := pu_t h309 H
      refine pu_iconst ?_
      refine pu_goto pu_t190_311 ?_
      refine pu_iload_n rfl ?_
      refine pu_iconst ?_
      refine pu_eq_ pu_t190_321 (fun h381 => ?_) (fun h381 => ?_)
      · replace H := pu_t h381 H
        refine pu_bipush ?_
        refine pu_goto pu_t190_329 ?_
        refine pu_cv (vs := [.int 1, .int 99]) (rest := []) pu_g187 ⟨pu_c85, by decide⟩ rfl rfl rfl rfl rfl (pu_CI (pu_I_imp H (fun y382 D383 H => ?_)))
        refine pu_ne0 pu_t190_337 (fun h384 => ?_) (fun h384 => ?_)
        · replace H := pu_f h384 H
          refine pu_aload_n rfl ?_
          refine pu_getI pu_k8_40 pu_c85 ?_
          refine pu_istore (L' := [.ref 85, z1, .int x2, z3, .int x4, .int (D383.1 85 40), z6]) (Or.inr rfl) rfl ?_
          refine pu_iload_n rfl ?_
          refine pu_iconst ?_
          refine pu_ne_ pu_t190_360 (fun h385 => ?_) (fun h385 => ?_)
          · replace H := pu_f h385 H
            refine pu_iload_n rfl ?_
            refine pu_bipush ?_
            refine pu_ne_ pu_t190_378 (fun h386 => ?_) (fun h386 => ?_)
            · replace H := pu_f h386 H
              refine pu_iload_n rfl ?_
              refine pu_bipush ?_
              refine pu_ne_ pu_t190_412 (fun h387 => ?_) (fun h387 => ?_)
              · replace H := pu_f h387 H
                refine pu_aload_n rfl ?_
                refine pu_iconst ?_
                refine pu_bipush ?_
                refine pu_cv (vs := [.int 0, .int 99]) (rest := []) pu_g187 ⟨pu_c85, by decide⟩ rfl rfl rfl rfl rfl (pu_CI (pu_I_imp H (fun y388 D389 H => ?_)))
                refine pu_ne0 pu_t190_424 (fun h390 => ?_) (fun h390 => ?_)
                · replace H := pu_f h390 H
                  refine pu_aload_n rfl ?_
                  refine pu_getI pu_k8_40 pu_c85 ?_
                  refine pu_istore (L' := [.ref 85, z1, .int x2, z3, .int x4, .int (D383.1 85 40), .int (D389.1 85 40)]) (Or.inr rfl) rfl ?_
                  refine pu_aload_n rfl ?_
                  refine pu_iconst ?_
                  refine pu_bipush ?_
                  refine pu_cv (vs := [.int 1, .int 99]) (rest := []) pu_g187 ⟨pu_c85, by decide⟩ rfl rfl rfl rfl rfl (pu_CI (pu_I_imp H (fun y391 D392 H => ?_)))
                  refine pu_ne0 pu_t190_442 (fun h393 => ?_) (fun h393 => ?_)
                  · replace H := pu_f h393 H
                    refine pu_aload_n rfl ?_
                    refine pu_iload rfl ?_
                    refine pu_iload rfl ?_
                    refine pu_iload rfl ?_
                    refine pu_aload_n rfl ?_
                    refine pu_getI pu_k8_40 pu_c85 ?_
                    refine pu_cv (vs := [.int x4, .int (D383.1 85 40), .int (D389.1 85 40), .int (D392.1 85 40)]) (rest := []) pu_g169 ⟨pu_c85, by decide⟩ rfl rfl rfl rfl rfl (pu_CI (pu_I_imp H (fun y394 D395 H => ?_)))
                    refine pu_pop rfl ?_
                    refine pu_iconst ?_
                    exact pu_iretZ pu_rt190 (by decide) H
                  · replace H := pu_t h393 H
                    refine pu_iconst ?_
                    exact pu_iretZ pu_rt190 (by decide) H
                · replace H := pu_t h390 H
                  refine pu_iconst ?_
                  exact pu_iretZ pu_rt190 (by decide) H
              · replace H := pu_t h387 H
                refine pu_aload_n rfl ?_
                refine pu_iconst ?_
                refine pu_bipush ?_
                refine pu_cv (vs := [.int 0, .int 11]) (rest := []) pu_g187 ⟨pu_c85, by decide⟩ rfl rfl rfl rfl rfl (pu_CI (pu_I_imp H (fun y396 D397 H => ?_)))
                refine pu_ne0 pu_t190_396 (fun h398 => ?_) (fun h398 => ?_)
                · replace H := pu_f h398 H
                  refine pu_aload_n rfl ?_
                  refine pu_iload rfl ?_
                  refine pu_iload rfl ?_
                  refine pu_aload_n rfl ?_
                  refine pu_getI pu_k8_40 pu_c85 ?_
                  refine pu_cv (vs := [.int x4, .int (D383.1 85 40), .int (D397.1 85 40)]) (rest := []) pu_g178 ⟨pu_c85, by decide⟩ rfl rfl rfl rfl rfl (pu_CI (pu_I_imp H (fun y399 D400 H => ?_)))
                  refine pu_pop rfl ?_
                  refine pu_goto pu_t190_457 ?_
                  refine pu_iconst ?_
                  exact pu_iretZ pu_rt190 (by decide) H
                · replace H := pu_t h398 H
                  refine pu_iconst ?_
                  exact pu_iretZ pu_rt190 (by decide) H
            · replace H := pu_t h386 H
              refine pu_aload_n rfl ?_
              refine pu_iload rfl ?_
              refine pu_iload rfl ?_
              refine pu_cv (vs := [.int x4, .int (D383.1 85 40)]) (rest := []) pu_g176 ⟨pu_c85, by decide⟩ rfl rfl rfl rfl rfl (pu_CI (pu_I_imp H (fun y401 D402 H => ?_)))
              refine pu_pop rfl ?_
              refine pu_goto pu_t190_457 ?_
              refine pu_iconst ?_
              exact pu_iretZ pu_rt190 (by decide) H
          · replace H := pu_t h385 H
            refine pu_aload_n rfl ?_
            refine pu_iload rfl ?_
            refine pu_iload rfl ?_
            refine pu_cv (vs := [.int x4, .int (D383.1 85 40)]) (rest := []) pu_g171 ⟨pu_c85, by decide⟩ rfl rfl rfl rfl rfl (pu_CI (pu_I_imp H (fun y403 D404 H => ?_)))
            refine pu_pop rfl ?_
            refine pu_goto pu_t190_457 ?_
            refine pu_iconst ?_
            exact pu_iretZ pu_rt190 (by decide) H
        · replace H := pu_t h384 H
          refine pu_iconst ?_
          exact pu_iretZ pu_rt190 (by decide) H
      · replace H := pu_f h381 H
        refine pu_iload_n rfl ?_
        refine pu_iconst ?_
        refine pu_ne_ pu_t190_326 (fun h405 => ?_) (fun h405 => ?_)
        · replace H := pu_f h405 H
          refine pu_sipush ?_
          refine pu_cv (vs := [.int 1, .int 999]) (rest := []) pu_g187 ⟨pu_c85, by decide⟩ rfl rfl rfl rfl rfl (pu_CI (pu_I_imp H (fun y406 D407 H => ?_)))
          refine pu_ne0 pu_t190_337 (fun h408 => ?_) (fun h408 => ?_)
          · replace H := pu_f h408 H
            refine pu_aload_n rfl ?_
            refine pu_getI pu_k8_40 pu_c85 ?_
            refine pu_istore (L' := [.ref 85, z1, .int x2, z3, .int x4, .int (D407.1 85 40), z6]) (Or.inr rfl) rfl ?_
            refine pu_iload_n rfl ?_
            refine pu_iconst ?_
            refine pu_ne_ pu_t190_360 (fun h409 => ?_) (fun h409 => ?_)
            · replace H := pu_f h409 H
              refine pu_iload_n rfl ?_
              refine pu_bipush ?_
              refine pu_ne_ pu_t190_378 (fun h410 => ?_) (fun h410 => ?_)
              · replace H := pu_f h410 H
                refine pu_iload_n rfl ?_
                refine pu_bipush ?_
                refine pu_ne_ pu_t190_412 (fun h411 => ?_) (fun h411 => ?_)
                · replace H := pu_f h411 H
                  refine pu_aload_n rfl ?_
                  refine pu_iconst ?_
                  refine pu_bipush ?_
                  refine pu_cv (vs := [.int 0, .int 99]) (rest := []) pu_g187 ⟨pu_c85, by decide⟩ rfl rfl rfl rfl rfl (pu_CI (pu_I_imp H (fun y412 D413 H => ?_)))
                  refine pu_ne0 pu_t190_424 (fun h414 => ?_) (fun h414 => ?_)
                  · replace H := pu_f h414 H
                    refine pu_aload_n rfl ?_
                    refine pu_getI pu_k8_40 pu_c85 ?_
                    refine pu_istore (L' := [.ref 85, z1, .int x2, z3, .int x4, .int (D407.1 85 40), .int (D413.1 85 40)]) (Or.inr rfl) rfl ?_
                    refine pu_aload_n rfl ?_
                    refine pu_iconst ?_
                    refine pu_bipush ?_
                    refine pu_cv (vs := [.int 1, .int 99]) (rest := []) pu_g187 ⟨pu_c85, by decide⟩ rfl rfl rfl rfl rfl (pu_CI (pu_I_imp H (fun y415 D416 H => ?_)))
                    refine pu_ne0 pu_t190_442 (fun h417 => ?_) (fun h417 => ?_)
                    · replace H := pu_f h417 H
                      refine pu_aload_n rfl ?_
                      refine pu_iload rfl ?_
                      refine pu_iload rfl ?_
                      refine pu_iload rfl ?_
                      refine pu_aload_n rfl ?_
                      refine pu_getI pu_k8_40 pu_c85 ?_
                      refine pu_cv (vs := [.int x4, .int (D407.1 85 40), .int (D413.1 85 40), .int (D416.1 85 40)]) (rest := []) pu_g169 ⟨pu_c85, by decide⟩ rfl rfl rfl rfl rfl (pu_CI (pu_I_imp H (fun y418 D419 H => ?_)))
                      refine pu_pop rfl ?_
                      refine pu_iconst ?_
                      exact pu_iretZ pu_rt190 (by decide) H
                    · replace H := pu_t h417 H
                      refine pu_iconst ?_
                      exact pu_iretZ pu_rt190 (by decide) H
                  · replace H := pu_t h414 H
                    refine pu_iconst ?_
                    exact pu_iretZ pu_rt190 (by decide) H
                · replace H := pu_t h411 H
                  refine pu_aload_n rfl ?_
                  refine pu_iconst ?_
                  refine pu_bipush ?_
                  refine pu_cv (vs := [.int 0, .int 11]) (rest := []) pu_g187 ⟨pu_c85, by decide⟩ rfl rfl rfl rfl rfl (pu_CI (pu_I_imp H (fun y420 D421 H => ?_)))
                  refine pu_ne0 pu_t190_396 (fun h422 => ?_) (fun h422 => ?_)
                  · replace H := pu_f h422 H
                    refine pu_aload_n rfl ?_
                    refine pu_iload rfl ?_
                    refine pu_iload rfl ?_
                    refine pu_aload_n rfl ?_
                    refine pu_getI pu_k8_40 pu_c85 ?_
                    refine pu_cv (vs := [.int x4, .int (D407.1 85 40), .int (D421.1 85 40)]) (rest := []) pu_g178 ⟨pu_c85, by decide⟩ rfl rfl rfl rfl rfl (pu_CI (pu_I_imp H (fun y423 D424 H => ?_)))
                    refine pu_pop rfl ?_
                    refine pu_goto pu_t190_457 ?_
                    refine pu_iconst ?_
                    exact pu_iretZ pu_rt190 (by decide) H
                  · replace H := pu_t h422 H
                    refine pu_iconst ?_
                    exact pu_iretZ pu_rt190 (by decide) H
              · replace H := pu_t h410 H
                refine pu_aload_n rfl ?_
                refine pu_iload rfl ?_
                refine pu_iload rfl ?_
                refine pu_cv (vs := [.int x4, .int (D407.1 85 40)]) (rest := []) pu_g176 ⟨pu_c85, by decide⟩ rfl rfl rfl rfl rfl (pu_CI (pu_I_imp H (fun y425 D426 H => ?_)))
                refine pu_pop rfl ?_
                refine pu_goto pu_t190_457 ?_
                refine pu_iconst ?_
                exact pu_iretZ pu_rt190 (by decide) H
            · replace H := pu_t h409 H
              refine pu_aload_n rfl ?_
              refine pu_iload rfl ?_
              refine pu_iload rfl ?_
              refine pu_cv (vs := [.int x4, .int (D407.1 85 40)]) (rest := []) pu_g171 ⟨pu_c85, by decide⟩ rfl rfl rfl rfl rfl (pu_CI (pu_I_imp H (fun y427 D428 H => ?_)))
              refine pu_pop rfl ?_
              refine pu_goto pu_t190_457 ?_
              refine pu_iconst ?_
              exact pu_iretZ pu_rt190 (by decide) H
          · replace H := pu_t h408 H
            refine pu_iconst ?_
            exact pu_iretZ pu_rt190 (by decide) H
        · replace H := pu_t h405 H
          refine pu_bipush ?_
          refine pu_goto pu_t190_329 ?_
          refine pu_cv (vs := [.int 1, .int 99]) (rest := []) pu_g187 ⟨pu_c85, by decide⟩ rfl rfl rfl rfl rfl (pu_CI (pu_I_imp H (fun y429 D430 H => ?_)))
          refine pu_ne0 pu_t190_337 (fun h431 => ?_) (fun h431 => ?_)
          · replace H := pu_f h431 H
            refine pu_aload_n rfl ?_
            refine pu_getI pu_k8_40 pu_c85 ?_
            refine pu_istore (L' := [.ref 85, z1, .int x2, z3, .int x4, .int (D430.1 85 40), z6]) (Or.inr rfl) rfl ?_
            refine pu_iload_n rfl ?_
            refine pu_iconst ?_
            refine pu_ne_ pu_t190_360 (fun h432 => ?_) (fun h432 => ?_)
            · replace H := pu_f h432 H
              refine pu_iload_n rfl ?_
              refine pu_bipush ?_
              refine pu_ne_ pu_t190_378 (fun h433 => ?_) (fun h433 => ?_)
              · replace H := pu_f h433 H
                refine pu_iload_n rfl ?_
                refine pu_bipush ?_
                refine pu_ne_ pu_t190_412 (fun h434 => ?_) (fun h434 => ?_)
                · replace H := pu_f h434 H
                  refine pu_aload_n rfl ?_
                  refine pu_iconst ?_
                  refine pu_bipush ?_
                  refine pu_cv (vs := [.int 0, .int 99]) (rest := []) pu_g187 ⟨pu_c85, by decide⟩ rfl rfl rfl rfl rfl (pu_CI (pu_I_imp H (fun y435 D436 H => ?_)))
                  refine pu_ne0 pu_t190_424 (fun h437 => ?_) (fun h437 => ?_)
                  · replace H := pu_f h437 H
                    refine pu_aload_n rfl ?_
                    refine pu_getI pu_k8_40 pu_c85 ?_
                    refine pu_istore (L' := [.ref 85, z1, .int x2, z3, .int x4, .int (D430.1 85 40), .int (D436.1 85 40)]) (Or.inr rfl) rfl ?_
                    refine pu_aload_n rfl ?_
                    refine pu_iconst ?_
                    refine pu_bipush ?_
                    refine pu_cv (vs := [.int 1, .int 99]) (rest := []) pu_g187 ⟨pu_c85, by decide⟩ rfl rfl rfl rfl rfl (pu_CI (pu_I_imp H (fun y438 D439 H => ?_)))
                    refine pu_ne0 pu_t190_442 (fun h440 => ?_) (fun h440 => ?_)
                    · replace H := pu_f h440 H
                      refine pu_aload_n rfl ?_
                      refine pu_iload rfl ?_
                      refine pu_iload rfl ?_
                      refine pu_iload rfl ?_
                      refine pu_aload_n rfl ?_
                      refine pu_getI pu_k8_40 pu_c85 ?_
                      refine pu_cv (vs := [.int x4, .int (D430.1 85 40), .int (D436.1 85 40), .int (D439.1 85 40)]) (rest := []) pu_g169 ⟨pu_c85, by decide⟩ rfl rfl rfl rfl rfl (pu_CI (pu_I_imp H (fun y441 D442 H => ?_)))
                      refine pu_pop rfl ?_
                      refine pu_iconst ?_
                      exact pu_iretZ pu_rt190 (by decide) H
                    · replace H := pu_t h440 H
                      refine pu_iconst ?_
                      exact pu_iretZ pu_rt190 (by decide) H
                  · replace H := pu_t h437 H
                    refine pu_iconst ?_
                    exact pu_iretZ pu_rt190 (by decide) H
                · replace H := pu_t h434 H
                  refine pu_aload_n rfl ?_
                  refine pu_iconst ?_
                  refine pu_bipush ?_
                  refine pu_cv (vs := [.int 0, .int 11]) (rest := []) pu_g187 ⟨pu_c85, by decide⟩ rfl rfl rfl rfl rfl (pu_CI (pu_I_imp H (fun y443 D444 H => ?_)))
                  refine pu_ne0 pu_t190_396 (fun h445 => ?_) (fun h445 => ?_)
                  · replace H := pu_f h445 H
                    refine pu_aload_n rfl ?_
                    refine pu_iload rfl ?_
                    refine pu_iload rfl ?_
                    refine pu_aload_n rfl ?_
                    refine pu_getI pu_k8_40 pu_c85 ?_
                    refine pu_cv (vs := [.int x4, .int (D430.1 85 40), .int (D444.1 85 40)]) (rest := []) pu_g178 ⟨pu_c85, by decide⟩ rfl rfl rfl rfl rfl (pu_CI (pu_I_imp H (fun y446 D447 H => ?_)))
                    refine pu_pop rfl ?_
                    refine pu_goto pu_t190_457 ?_
                    refine pu_iconst ?_
                    exact pu_iretZ pu_rt190 (by decide) H
                  · replace H := pu_t h445 H
                    refine pu_iconst ?_
                    exact pu_iretZ pu_rt190 (by decide) H
              · replace H := pu_t h433 H
                refine pu_aload_n rfl ?_
                refine pu_iload rfl ?_
                refine pu_iload rfl ?_
                refine pu_cv (vs := [.int x4, .int (D430.1 85 40)]) (rest := []) pu_g176 ⟨pu_c85, by decide⟩ rfl rfl rfl rfl rfl (pu_CI (pu_I_imp H (fun y448 D449 H => ?_)))
                refine pu_pop rfl ?_
                refine pu_goto pu_t190_457 ?_
                refine pu_iconst ?_
                exact pu_iretZ pu_rt190 (by decide) H
            · replace H := pu_t h432 H
              refine pu_aload_n rfl ?_
              refine pu_iload rfl ?_
              refine pu_iload rfl ?_
              refine pu_cv (vs := [.int x4, .int (D430.1 85 40)]) (rest := []) pu_g171 ⟨pu_c85, by decide⟩ rfl rfl rfl rfl rfl (pu_CI (pu_I_imp H (fun y450 D451 H => ?_)))
              refine pu_pop rfl ?_
              refine pu_goto pu_t190_457 ?_
              refine pu_iconst ?_
              exact pu_iretZ pu_rt190 (by decide) H
          · replace H := pu_t h431 H
            refine pu_iconst ?_
            exact pu_iretZ pu_rt190 (by decide) H
theorem pu_u190_33 {X : px_X} {x1 : Int32} {D : pu_D} {P : Int32 → pu_D → Prop} 
    (H : pu_h190_2 X (x1 + 1) D P) :
    pu_h190_33 X x1 D P := by
  intro z2 hz2 z3 hz3 z4 hz4 z5 hz5 z6 hz6
  refine pu_iinc (L' := [.ref 85, .int (x1 + 1), z2, z3, z4, z5, z6]) rfl (Or.inr rfl) rfl ?_
  refine pu_goto pu_t190_2 ?_
  exact H _ hz2 _ hz3 _ hz4 _ hz5 _ hz6
theorem pu_e190 {X : px_X}  {D : pu_D} {P : Int32 → pu_D → Prop} 
    (H : pu_h190_2 X 4 D P) :
    pu_I X 190 [.ref 85] D P := by
  refine pu_ent (E := [.ref 85, .null, .null, .null, .null, .null, .null]) pu_n190.1 pu_n190.2 pu_t190_0 rfl ?_
  refine pu_iconst ?_
  refine pu_istore_n (L' := [.ref 85, .int 4, .null, .null, .null, .null, .null]) (Or.inr rfl) rfl ?_
  exact H _ rfl _ rfl _ rfl _ rfl _ rfl
/-- LightAlongModel.counts([IZ)V -/
theorem pu_e191 {X : px_X} {q1 : Nat} {x2 : Int32} {D : pu_D} {P : pu_D → Prop} (hq1 : pu_cl q1 = 100)
    (H : if x2 = 0 then ((px_in 0 (pu_ln q1) = true) ∧ (px_in 1 (pu_ln q1) = true) ∧ (px_in 2 (pu_ln q1) = true) ∧ (px_in 3 (pu_ln q1) = true) ∧ (px_in 4 (pu_ln q1) = true) ∧ (px_in 5 (pu_ln q1) = true) ∧ (px_in 6 (pu_ln q1) = true) ∧ (px_in 7 (pu_ln q1) = true) ∧ (px_in 8 (pu_ln q1) = true) ∧ (px_in 9 (pu_ln q1) = true) ∧ (px_in 10 (pu_ln q1) = true) ∧ P (pu_wi (pu_wi (pu_wi (pu_wi (pu_wi (pu_wi (pu_wi (pu_wi (pu_wi (pu_wi (pu_wi D q1 (Int32.toNatClampNeg 0) (D.1 85 0)) q1 (Int32.toNatClampNeg 1) ((pu_wi D q1 (Int32.toNatClampNeg 0) (D.1 85 0)).1 85 1)) q1 (Int32.toNatClampNeg 2) ((pu_wi (pu_wi D q1 (Int32.toNatClampNeg 0) (D.1 85 0)) q1 (Int32.toNatClampNeg 1) ((pu_wi D q1 (Int32.toNatClampNeg 0) (D.1 85 0)).1 85 1)).1 85 2)) q1 (Int32.toNatClampNeg 3) ((pu_wi (pu_wi (pu_wi D q1 (Int32.toNatClampNeg 0) (D.1 85 0)) q1 (Int32.toNatClampNeg 1) ((pu_wi D q1 (Int32.toNatClampNeg 0) (D.1 85 0)).1 85 1)) q1 (Int32.toNatClampNeg 2) ((pu_wi (pu_wi D q1 (Int32.toNatClampNeg 0) (D.1 85 0)) q1 (Int32.toNatClampNeg 1) ((pu_wi D q1 (Int32.toNatClampNeg 0) (D.1 85 0)).1 85 1)).1 85 2)).1 85 3)) q1 (Int32.toNatClampNeg 4) ((pu_wi (pu_wi (pu_wi (pu_wi D q1 (Int32.toNatClampNeg 0) (D.1 85 0)) q1 (Int32.toNatClampNeg 1) ((pu_wi D q1 (Int32.toNatClampNeg 0) (D.1 85 0)).1 85 1)) q1 (Int32.toNatClampNeg 2) ((pu_wi (pu_wi D q1 (Int32.toNatClampNeg 0) (D.1 85 0)) q1 (Int32.toNatClampNeg 1) ((pu_wi D q1 (Int32.toNatClampNeg 0) (D.1 85 0)).1 85 1)).1 85 2)) q1 (Int32.toNatClampNeg 3) ((pu_wi (pu_wi (pu_wi D q1 (Int32.toNatClampNeg 0) (D.1 85 0)) q1 (Int32.toNatClampNeg 1) ((pu_wi D q1 (Int32.toNatClampNeg 0) (D.1 85 0)).1 85 1)) q1 (Int32.toNatClampNeg 2) ((pu_wi (pu_wi D q1 (Int32.toNatClampNeg 0) (D.1 85 0)) q1 (Int32.toNatClampNeg 1) ((pu_wi D q1 (Int32.toNatClampNeg 0) (D.1 85 0)).1 85 1)).1 85 2)).1 85 3)).1 85 4)) q1 (Int32.toNatClampNeg 5) ((pu_wi (pu_wi (pu_wi (pu_wi (pu_wi D q1 (Int32.toNatClampNeg 0) (D.1 85 0)) q1 (Int32.toNatClampNeg 1) ((pu_wi D q1 (Int32.toNatClampNeg 0) (D.1 85 0)).1 85 1)) q1 (Int32.toNatClampNeg 2) ((pu_wi (pu_wi D q1 (Int32.toNatClampNeg 0) (D.1 85 0)) q1 (Int32.toNatClampNeg 1) ((pu_wi D q1 (Int32.toNatClampNeg 0) (D.1 85 0)).1 85 1)).1 85 2)) q1 (Int32.toNatClampNeg 3) ((pu_wi (pu_wi (pu_wi D q1 (Int32.toNatClampNeg 0) (D.1 85 0)) q1 (Int32.toNatClampNeg 1) ((pu_wi D q1 (Int32.toNatClampNeg 0) (D.1 85 0)).1 85 1)) q1 (Int32.toNatClampNeg 2) ((pu_wi (pu_wi D q1 (Int32.toNatClampNeg 0) (D.1 85 0)) q1 (Int32.toNatClampNeg 1) ((pu_wi D q1 (Int32.toNatClampNeg 0) (D.1 85 0)).1 85 1)).1 85 2)).1 85 3)) q1 (Int32.toNatClampNeg 4) ((pu_wi (pu_wi (pu_wi (pu_wi D q1 (Int32.toNatClampNeg 0) (D.1 85 0)) q1 (Int32.toNatClampNeg 1) ((pu_wi D q1 (Int32.toNatClampNeg 0) (D.1 85 0)).1 85 1)) q1 (Int32.toNatClampNeg 2) ((pu_wi (pu_wi D q1 (Int32.toNatClampNeg 0) (D.1 85 0)) q1 (Int32.toNatClampNeg 1) ((pu_wi D q1 (Int32.toNatClampNeg 0) (D.1 85 0)).1 85 1)).1 85 2)) q1 (Int32.toNatClampNeg 3) ((pu_wi (pu_wi (pu_wi D q1 (Int32.toNatClampNeg 0) (D.1 85 0)) q1 (Int32.toNatClampNeg 1) ((pu_wi D q1 (Int32.toNatClampNeg 0) (D.1 85 0)).1 85 1)) q1 (Int32.toNatClampNeg 2) ((pu_wi (pu_wi D q1 (Int32.toNatClampNeg 0) (D.1 85 0)) q1 (Int32.toNatClampNeg 1) ((pu_wi D q1 (Int32.toNatClampNeg 0) (D.1 85 0)).1 85 1)).1 85 2)).1 85 3)).1 85 4)).1 85 5)) q1 (Int32.toNatClampNeg 6) ((pu_wi (pu_wi (pu_wi (pu_wi (pu_wi (pu_wi D q1 (Int32.toNatClampNeg 0) (D.1 85 0)) q1 (Int32.toNatClampNeg 1) ((pu_wi D q1 (Int32.toNatClampNeg 0) (D.1 85 0)).1 85 1)) q1 (Int32.toNatClampNeg 2) ((pu_wi (pu_wi D q1 (Int32.toNatClampNeg 0) (D.1 85 0)) q1 (Int32.toNatClampNeg 1) ((pu_wi D q1 (Int32.toNatClampNeg 0) (D.1 85 0)).1 85 1)).1 85 2)) q1 (Int32.toNatClampNeg 3) ((pu_wi (pu_wi (pu_wi D q1 (Int32.toNatClampNeg 0) (D.1 85 0)) q1 (Int32.toNatClampNeg 1) ((pu_wi D q1 (Int32.toNatClampNeg 0) (D.1 85 0)).1 85 1)) q1 (Int32.toNatClampNeg 2) ((pu_wi (pu_wi D q1 (Int32.toNatClampNeg 0) (D.1 85 0)) q1 (Int32.toNatClampNeg 1) ((pu_wi D q1 (Int32.toNatClampNeg 0) (D.1 85 0)).1 85 1)).1 85 2)).1 85 3)) q1 (Int32.toNatClampNeg 4) ((pu_wi (pu_wi (pu_wi (pu_wi D q1 (Int32.toNatClampNeg 0) (D.1 85 0)) q1 (Int32.toNatClampNeg 1) ((pu_wi D q1 (Int32.toNatClampNeg 0) (D.1 85 0)).1 85 1)) q1 (Int32.toNatClampNeg 2) ((pu_wi (pu_wi D q1 (Int32.toNatClampNeg 0) (D.1 85 0)) q1 (Int32.toNatClampNeg 1) ((pu_wi D q1 (Int32.toNatClampNeg 0) (D.1 85 0)).1 85 1)).1 85 2)) q1 (Int32.toNatClampNeg 3) ((pu_wi (pu_wi (pu_wi D q1 (Int32.toNatClampNeg 0) (D.1 85 0)) q1 (Int32.toNatClampNeg 1) ((pu_wi D q1 (Int32.toNatClampNeg 0) (D.1 85 0)).1 85 1)) q1 (Int32.toNatClampNeg 2) ((pu_wi (pu_wi D q1 (Int32.toNatClampNeg 0) (D.1 85 0)) q1 (Int32.toNatClampNeg 1) ((pu_wi D q1 (Int32.toNatClampNeg 0) (D.1 85 0)).1 85 1)).1 85 2)).1 85 3)).1 85 4)) q1 (Int32.toNatClampNeg 5) ((pu_wi (pu_wi (pu_wi (pu_wi (pu_wi D q1 (Int32.toNatClampNeg 0) (D.1 85 0)) q1 (Int32.toNatClampNeg 1) ((pu_wi D q1 (Int32.toNatClampNeg 0) (D.1 85 0)).1 85 1)) q1 (Int32.toNatClampNeg 2) ((pu_wi (pu_wi D q1 (Int32.toNatClampNeg 0) (D.1 85 0)) q1 (Int32.toNatClampNeg 1) ((pu_wi D q1 (Int32.toNatClampNeg 0) (D.1 85 0)).1 85 1)).1 85 2)) q1 (Int32.toNatClampNeg 3) ((pu_wi (pu_wi (pu_wi D q1 (Int32.toNatClampNeg 0) (D.1 85 0)) q1 (Int32.toNatClampNeg 1) ((pu_wi D q1 (Int32.toNatClampNeg 0) (D.1 85 0)).1 85 1)) q1 (Int32.toNatClampNeg 2) ((pu_wi (pu_wi D q1 (Int32.toNatClampNeg 0) (D.1 85 0)) q1 (Int32.toNatClampNeg 1) ((pu_wi D q1 (Int32.toNatClampNeg 0) (D.1 85 0)).1 85 1)).1 85 2)).1 85 3)) q1 (Int32.toNatClampNeg 4) ((pu_wi (pu_wi (pu_wi (pu_wi D q1 (Int32.toNatClampNeg 0) (D.1 85 0)) q1 (Int32.toNatClampNeg 1) ((pu_wi D q1 (Int32.toNatClampNeg 0) (D.1 85 0)).1 85 1)) q1 (Int32.toNatClampNeg 2) ((pu_wi (pu_wi D q1 (Int32.toNatClampNeg 0) (D.1 85 0)) q1 (Int32.toNatClampNeg 1) ((pu_wi D q1 (Int32.toNatClampNeg 0) (D.1 85 0)).1 85 1)).1 85 2)) q1 (Int32.toNatClampNeg 3) ((pu_wi (pu_wi (pu_wi D q1 (Int32.toNatClampNeg 0) (D.1 85 0)) q1 (Int32.toNatClampNeg 1) ((pu_wi D q1 (Int32.toNatClampNeg 0) (D.1 85 0)).1 85 1)) q1 (Int32.toNatClampNeg 2) ((pu_wi (pu_wi D q1 (Int32.toNatClampNeg 0) (D.1 85 0)) q1 (Int32.toNatClampNeg 1) ((pu_wi D q1 (Int32.toNatClampNeg 0) (D.1 85 0)).1 85 1)).1 85 2)).1 85 3)).1 85 4)).1 85 5)).1 85 6)) q1 (Int32.toNatClampNeg 7) ((pu_wi (pu_wi (pu_wi (pu_wi (pu_wi (pu_wi (pu_wi D q1 (Int32.toNatClampNeg 0) (D.1 85 0)) q1 (Int32.toNatClampNeg 1) ((pu_wi D q1 (Int32.toNatClampNeg 0) (D.1 85 0)).1 85 1)) q1 (Int32.toNatClampNeg 2) ((pu_wi (pu_wi D q1 (Int32.toNatClampNeg 0) (D.1 85 0)) q1 (Int32.toNatClampNeg 1) ((pu_wi D q1 (Int32.toNatClampNeg 0) (D.1 85 0)).1 85 1)).1 85 2)) q1 (Int32.toNatClampNeg 3) ((pu_wi (pu_wi (pu_wi D q1 (Int32.toNatClampNeg 0) (D.1 85 0)) q1 (Int32.toNatClampNeg 1) ((pu_wi D q1 (Int32.toNatClampNeg 0) (D.1 85 0)).1 85 1)) q1 (Int32.toNatClampNeg 2) ((pu_wi (pu_wi D q1 (Int32.toNatClampNeg 0) (D.1 85 0)) q1 (Int32.toNatClampNeg 1) ((pu_wi D q1 (Int32.toNatClampNeg 0) (D.1 85 0)).1 85 1)).1 85 2)).1 85 3)) q1 (Int32.toNatClampNeg 4) ((pu_wi (pu_wi (pu_wi (pu_wi D q1 (Int32.toNatClampNeg 0) (D.1 85 0)) q1 (Int32.toNatClampNeg 1) ((pu_wi D q1 (Int32.toNatClampNeg 0) (D.1 85 0)).1 85 1)) q1 (Int32.toNatClampNeg 2) ((pu_wi (pu_wi D q1 (Int32.toNatClampNeg 0) (D.1 85 0)) q1 (Int32.toNatClampNeg 1) ((pu_wi D q1 (Int32.toNatClampNeg 0) (D.1 85 0)).1 85 1)).1 85 2)) q1 (Int32.toNatClampNeg 3) ((pu_wi (pu_wi (pu_wi D q1 (Int32.toNatClampNeg 0) (D.1 85 0)) q1 (Int32.toNatClampNeg 1) ((pu_wi D q1 (Int32.toNatClampNeg 0) (D.1 85 0)).1 85 1)) q1 (Int32.toNatClampNeg 2) ((pu_wi (pu_wi D q1 (Int32.toNatClampNeg 0) (D.1 85 0)) q1 (Int32.toNatClampNeg 1) ((pu_wi D q1 (Int32.toNatClampNeg 0) (D.1 85 0)).1 85 1)).1 85 2)).1 85 3)).1 85 4)) q1 (Int32.toNatClampNeg 5) ((pu_wi (pu_wi (pu_wi (pu_wi (pu_wi D q1 (Int32.toNatClampNeg 0) (D.1 85 0)) q1 (Int32.toNatClampNeg 1) ((pu_wi D q1 (Int32.toNatClampNeg 0) (D.1 85 0)).1 85 1)) q1 (Int32.toNatClampNeg 2) ((pu_wi (pu_wi D q1 (Int32.toNatClampNeg 0) (D.1 85 0)) q1 (Int32.toNatClampNeg 1) ((pu_wi D q1 (Int32.toNatClampNeg 0) (D.1 85 0)).1 85 1)).1 85 2)) q1 (Int32.toNatClampNeg 3) ((pu_wi (pu_wi (pu_wi D q1 (Int32.toNatClampNeg 0) (D.1 85 0)) q1 (Int32.toNatClampNeg 1) ((pu_wi D q1 (Int32.toNatClampNeg 0) (D.1 85 0)).1 85 1)) q1 (Int32.toNatClampNeg 2) ((pu_wi (pu_wi D q1 (Int32.toNatClampNeg 0) (D.1 85 0)) q1 (Int32.toNatClampNeg 1) ((pu_wi D q1 (Int32.toNatClampNeg 0) (D.1 85 0)).1 85 1)).1 85 2)).1 85 3)) q1 (Int32.toNatClampNeg 4) ((pu_wi (pu_wi (pu_wi (pu_wi D q1 (Int32.toNatClampNeg 0) (D.1 85 0)) q1 (Int32.toNatClampNeg 1) ((pu_wi D q1 (Int32.toNatClampNeg 0) (D.1 85 0)).1 85 1)) q1 (Int32.toNatClampNeg 2) ((pu_wi (pu_wi D q1 (Int32.toNatClampNeg 0) (D.1 85 0)) q1 (Int32.toNatClampNeg 1) ((pu_wi D q1 (Int32.toNatClampNeg 0) (D.1 85 0)).1 85 1)).1 85 2)) q1 (Int32.toNatClampNeg 3) ((pu_wi (pu_wi (pu_wi D q1 (Int32.toNatClampNeg 0) (D.1 85 0)) q1 (Int32.toNatClampNeg 1) ((pu_wi D q1 (Int32.toNatClampNeg 0) (D.1 85 0)).1 85 1)) q1 (Int32.toNatClampNeg 2) ((pu_wi (pu_wi D q1 (Int32.toNatClampNeg 0) (D.1 85 0)) q1 (Int32.toNatClampNeg 1) ((pu_wi D q1 (Int32.toNatClampNeg 0) (D.1 85 0)).1 85 1)).1 85 2)).1 85 3)).1 85 4)).1 85 5)) q1 (Int32.toNatClampNeg 6) ((pu_wi (pu_wi (pu_wi (pu_wi (pu_wi (pu_wi D q1 (Int32.toNatClampNeg 0) (D.1 85 0)) q1 (Int32.toNatClampNeg 1) ((pu_wi D q1 (Int32.toNatClampNeg 0) (D.1 85 0)).1 85 1)) q1 (Int32.toNatClampNeg 2) ((pu_wi (pu_wi D q1 (Int32.toNatClampNeg 0) (D.1 85 0)) q1 (Int32.toNatClampNeg 1) ((pu_wi D q1 (Int32.toNatClampNeg 0) (D.1 85 0)).1 85 1)).1 85 2)) q1 (Int32.toNatClampNeg 3) ((pu_wi (pu_wi (pu_wi D q1 (Int32.toNatClampNeg 0) (D.1 85 0)) q1 (Int32.toNatClampNeg 1) ((pu_wi D q1 (Int32.toNatClampNeg 0) (D.1 85 0)).1 85 1)) q1 (Int32.toNatClampNeg 2) ((pu_wi (pu_wi D q1 (Int32.toNatClampNeg 0) (D.1 85 0)) q1 (Int32.toNatClampNeg 1) ((pu_wi D q1 (Int32.toNatClampNeg 0) (D.1 85 0)).1 85 1)).1 85 2)).1 85 3)) q1 (Int32.toNatClampNeg 4) ((pu_wi (pu_wi (pu_wi (pu_wi D q1 (Int32.toNatClampNeg 0) (D.1 85 0)) q1 (Int32.toNatClampNeg 1) ((pu_wi D q1 (Int32.toNatClampNeg 0) (D.1 85 0)).1 85 1)) q1 (Int32.toNatClampNeg 2) ((pu_wi (pu_wi D q1 (Int32.toNatClampNeg 0) (D.1 85 0)) q1 (Int32.toNatClampNeg 1) ((pu_wi D q1 (Int32.toNatClampNeg 0) (D.1 85 0)).1 85 1)).1 85 2)) q1 (Int32.toNatClampNeg 3) ((pu_wi (pu_wi (pu_wi D q1 (Int32.toNatClampNeg 0) (D.1 85 0)) q1 (Int32.toNatClampNeg 1) ((pu_wi D q1 (Int32.toNatClampNeg 0) (D.1 85 0)).1 85 1)) q1 (Int32.toNatClampNeg 2) ((pu_wi (pu_wi D q1 (Int32.toNatClampNeg 0) (D.1 85 0)) q1 (Int32.toNatClampNeg 1) ((pu_wi D q1 (Int32.toNatClampNeg 0) (D.1 85 0)).1 85 1)).1 85 2)).1 85 3)).1 85 4)) q1 (Int32.toNatClampNeg 5) ((pu_wi (pu_wi (pu_wi (pu_wi (pu_wi D q1 (Int32.toNatClampNeg 0) (D.1 85 0)) q1 (Int32.toNatClampNeg 1) ((pu_wi D q1 (Int32.toNatClampNeg 0) (D.1 85 0)).1 85 1)) q1 (Int32.toNatClampNeg 2) ((pu_wi (pu_wi D q1 (Int32.toNatClampNeg 0) (D.1 85 0)) q1 (Int32.toNatClampNeg 1) ((pu_wi D q1 (Int32.toNatClampNeg 0) (D.1 85 0)).1 85 1)).1 85 2)) q1 (Int32.toNatClampNeg 3) ((pu_wi (pu_wi (pu_wi D q1 (Int32.toNatClampNeg 0) (D.1 85 0)) q1 (Int32.toNatClampNeg 1) ((pu_wi D q1 (Int32.toNatClampNeg 0) (D.1 85 0)).1 85 1)) q1 (Int32.toNatClampNeg 2) ((pu_wi (pu_wi D q1 (Int32.toNatClampNeg 0) (D.1 85 0)) q1 (Int32.toNatClampNeg 1) ((pu_wi D q1 (Int32.toNatClampNeg 0) (D.1 85 0)).1 85 1)).1 85 2)).1 85 3)) q1 (Int32.toNatClampNeg 4) ((pu_wi (pu_wi (pu_wi (pu_wi D q1 (Int32.toNatClampNeg 0) (D.1 85 0)) q1 (Int32.toNatClampNeg 1) ((pu_wi D q1 (Int32.toNatClampNeg 0) (D.1 85 0)).1 85 1)) q1 (Int32.toNatClampNeg 2) ((pu_wi (pu_wi D q1 (Int32.toNatClampNeg 0) (D.1 85 0)) q1 (Int32.toNatClampNeg 1) ((pu_wi D q1 (Int32.toNatClampNeg 0) (D.1 85 0)).1 85 1)).1 85 2)) q1 (Int32.toNatClampNeg 3) ((pu_wi (pu_wi (pu_wi D q1 (Int32.toNatClampNeg 0) (D.1 85 0)) q1 (Int32.toNatClampNeg 1) ((pu_wi D q1 (Int32.toNatClampNeg 0) (D.1 85 0)).1 85 1)) q1 (Int32.toNatClampNeg 2) ((pu_wi (pu_wi D q1 (Int32.toNatClampNeg 0) (D.1 85 0)) q1 (Int32.toNatClampNeg 1) ((pu_wi D q1 (Int32.toNatClampNeg 0) (D.1 85 0)).1 85 1)).1 85 2)).1 85 3)).1 85 4)).1 85 5)).1 85 6)).1 85 7)) q1 (Int32.toNatClampNeg 8) ((pu_wi (pu_wi (pu_wi (pu_wi (pu_wi (pu_wi (pu_wi (pu_wi D q1 (Int32.toNatClampNeg 0) (D.1 85 0)) q1 (Int32.toNatClampNeg 1) ((pu_wi D q1 (Int32.toNatClampNeg 0) (D.1 85 0)).1 85 1)) q1 (Int32.toNatClampNeg 2) ((pu_wi (pu_wi D q1 (Int32.toNatClampNeg 0) (D.1 85 0)) q1 (Int32.toNatClampNeg 1) ((pu_wi D q1 (Int32.toNatClampNeg 0) (D.1 85 0)).1 85 1)).1 85 2)) q1 (Int32.toNatClampNeg 3) ((pu_wi (pu_wi (pu_wi D q1 (Int32.toNatClampNeg 0) (D.1 85 0)) q1 (Int32.toNatClampNeg 1) ((pu_wi D q1 (Int32.toNatClampNeg 0) (D.1 85 0)).1 85 1)) q1 (Int32.toNatClampNeg 2) ((pu_wi (pu_wi D q1 (Int32.toNatClampNeg 0) (D.1 85 0)) q1 (Int32.toNatClampNeg 1) ((pu_wi D q1 (Int32.toNatClampNeg 0) (D.1 85 0)).1 85 1)).1 85 2)).1 85 3)) q1 (Int32.toNatClampNeg 4) ((pu_wi (pu_wi (pu_wi (pu_wi D q1 (Int32.toNatClampNeg 0) (D.1 85 0)) q1 (Int32.toNatClampNeg 1) ((pu_wi D q1 (Int32.toNatClampNeg 0) (D.1 85 0)).1 85 1)) q1 (Int32.toNatClampNeg 2) ((pu_wi (pu_wi D q1 (Int32.toNatClampNeg 0) (D.1 85 0)) q1 (Int32.toNatClampNeg 1) ((pu_wi D q1 (Int32.toNatClampNeg 0) (D.1 85 0)).1 85 1)).1 85 2)) q1 (Int32.toNatClampNeg 3) ((pu_wi (pu_wi (pu_wi D q1 (Int32.toNatClampNeg 0) (D.1 85 0)) q1 (Int32.toNatClampNeg 1) ((pu_wi D q1 (Int32.toNatClampNeg 0) (D.1 85 0)).1 85 1)) q1 (Int32.toNatClampNeg 2) ((pu_wi (pu_wi D q1 (Int32.toNatClampNeg 0) (D.1 85 0)) q1 (Int32.toNatClampNeg 1) ((pu_wi D q1 (Int32.toNatClampNeg 0) (D.1 85 0)).1 85 1)).1 85 2)).1 85 3)).1 85 4)) q1 (Int32.toNatClampNeg 5) ((pu_wi (pu_wi (pu_wi (pu_wi (pu_wi D q1 (Int32.toNatClampNeg 0) (D.1 85 0)) q1 (Int32.toNatClampNeg 1) ((pu_wi D q1 (Int32.toNatClampNeg 0) (D.1 85 0)).1 85 1)) q1 (Int32.toNatClampNeg 2) ((pu_wi (pu_wi D q1 (Int32.toNatClampNeg 0) (D.1 85 0)) q1 (Int32.toNatClampNeg 1) ((pu_wi D q1 (Int32.toNatClampNeg 0) (D.1 85 0)).1 85 1)).1 85 2)) q1 (Int32.toNatClampNeg 3) ((pu_wi (pu_wi (pu_wi D q1 (Int32.toNatClampNeg 0) (D.1 85 0)) q1 (Int32.toNatClampNeg 1) ((pu_wi D q1 (Int32.toNatClampNeg 0) (D.1 85 0)).1 85 1)) q1 (Int32.toNatClampNeg 2) ((pu_wi (pu_wi D q1 (Int32.toNatClampNeg 0) (D.1 85 0)) q1 (Int32.toNatClampNeg 1) ((pu_wi D q1 (Int32.toNatClampNeg 0) (D.1 85 0)).1 85 1)).1 85 2)).1 85 3)) q1 (Int32.toNatClampNeg 4) ((pu_wi (pu_wi (pu_wi (pu_wi D q1 (Int32.toNatClampNeg 0) (D.1 85 0)) q1 (Int32.toNatClampNeg 1) ((pu_wi D q1 (Int32.toNatClampNeg 0) (D.1 85 0)).1 85 1)) q1 (Int32.toNatClampNeg 2) ((pu_wi (pu_wi D q1 (Int32.toNatClampNeg 0) (D.1 85 0)) q1 (Int32.toNatClampNeg 1) ((pu_wi D q1 (Int32.toNatClampNeg 0) (D.1 85 0)).1 85 1)).1 85 2)) q1 (Int32.toNatClampNeg 3) ((pu_wi (pu_wi (pu_wi D q1 (Int32.toNatClampNeg 0) (D.1 85 0)) q1 (Int32.toNatClampNeg 1) ((pu_wi D q1 (Int32.toNatClampNeg 0) (D.1 85 0)).1 85 1)) q1 (Int32.toNatClampNeg 2) ((pu_wi (pu_wi D q1 (Int32.toNatClampNeg 0) (D.1 85 0)) q1 (Int32.toNatClampNeg 1) ((pu_wi D q1 (Int32.toNatClampNeg 0) (D.1 85 0)).1 85 1)).1 85 2)).1 85 3)).1 85 4)).1 85 5)) q1 (Int32.toNatClampNeg 6) ((pu_wi (pu_wi (pu_wi (pu_wi (pu_wi (pu_wi D q1 (Int32.toNatClampNeg 0) (D.1 85 0)) q1 (Int32.toNatClampNeg 1) ((pu_wi D q1 (Int32.toNatClampNeg 0) (D.1 85 0)).1 85 1)) q1 (Int32.toNatClampNeg 2) ((pu_wi (pu_wi D q1 (Int32.toNatClampNeg 0) (D.1 85 0)) q1 (Int32.toNatClampNeg 1) ((pu_wi D q1 (Int32.toNatClampNeg 0) (D.1 85 0)).1 85 1)).1 85 2)) q1 (Int32.toNatClampNeg 3) ((pu_wi (pu_wi (pu_wi D q1 (Int32.toNatClampNeg 0) (D.1 85 0)) q1 (Int32.toNatClampNeg 1) ((pu_wi D q1 (Int32.toNatClampNeg 0) (D.1 85 0)).1 85 1)) q1 (Int32.toNatClampNeg 2) ((pu_wi (pu_wi D q1 (Int32.toNatClampNeg 0) (D.1 85 0)) q1 (Int32.toNatClampNeg 1) ((pu_wi D q1 (Int32.toNatClampNeg 0) (D.1 85 0)).1 85 1)).1 85 2)).1 85 3)) q1 (Int32.toNatClampNeg 4) ((pu_wi (pu_wi (pu_wi (pu_wi D q1 (Int32.toNatClampNeg 0) (D.1 85 0)) q1 (Int32.toNatClampNeg 1) ((pu_wi D q1 (Int32.toNatClampNeg 0) (D.1 85 0)).1 85 1)) q1 (Int32.toNatClampNeg 2) ((pu_wi (pu_wi D q1 (Int32.toNatClampNeg 0) (D.1 85 0)) q1 (Int32.toNatClampNeg 1) ((pu_wi D q1 (Int32.toNatClampNeg 0) (D.1 85 0)).1 85 1)).1 85 2)) q1 (Int32.toNatClampNeg 3) ((pu_wi (pu_wi (pu_wi D q1 (Int32.toNatClampNeg 0) (D.1 85 0)) q1 (Int32.toNatClampNeg 1) ((pu_wi D q1 (Int32.toNatClampNeg 0) (D.1 85 0)).1 85 1)) q1 (Int32.toNatClampNeg 2) ((pu_wi (pu_wi D q1 (Int32.toNatClampNeg 0) (D.1 85 0)) q1 (Int32.toNatClampNeg 1) ((pu_wi D q1 (Int32.toNatClampNeg 0) (D.1 85 0)).1 85 1)).1 85 2)).1 85 3)).1 85 4)) q1 (Int32.toNatClampNeg 5) ((pu_wi (pu_wi (pu_wi (pu_wi (pu_wi D q1 (Int32.toNatClampNeg 0) (D.1 85 0)) q1 (Int32.toNatClampNeg 1) ((pu_wi D q1 (Int32.toNatClampNeg 0) (D.1 85 0)).1 85 1)) q1 (Int32.toNatClampNeg 2) ((pu_wi (pu_wi D q1 (Int32.toNatClampNeg 0) (D.1 85 0)) q1 (Int32.toNatClampNeg 1) ((pu_wi D q1 (Int32.toNatClampNeg 0) (D.1 85 0)).1 85 1)).1 85 2)) q1 (Int32.toNatClampNeg 3) ((pu_wi (pu_wi (pu_wi D q1 (Int32.toNatClampNeg 0) (D.1 85 0)) q1 (Int32.toNatClampNeg 1) ((pu_wi D q1 (Int32.toNatClampNeg 0) (D.1 85 0)).1 85 1)) q1 (Int32.toNatClampNeg 2) ((pu_wi (pu_wi D q1 (Int32.toNatClampNeg 0) (D.1 85 0)) q1 (Int32.toNatClampNeg 1) ((pu_wi D q1 (Int32.toNatClampNeg 0) (D.1 85 0)).1 85 1)).1 85 2)).1 85 3)) q1 (Int32.toNatClampNeg 4) ((pu_wi (pu_wi (pu_wi (pu_wi D q1 (Int32.toNatClampNeg 0) (D.1 85 0)) q1 (Int32.toNatClampNeg 1) ((pu_wi D q1 (Int32.toNatClampNeg 0) (D.1 85 0)).1 85 1)) q1 (Int32.toNatClampNeg 2) ((pu_wi (pu_wi D q1 (Int32.toNatClampNeg 0) (D.1 85 0)) q1 (Int32.toNatClampNeg 1) ((pu_wi D q1 (Int32.toNatClampNeg 0) (D.1 85 0)).1 85 1)).1 85 2)) q1 (Int32.toNatClampNeg 3) ((pu_wi (pu_wi (pu_wi D q1 (Int32.toNatClampNeg 0) (D.1 85 0)) q1 (Int32.toNatClampNeg 1) ((pu_wi D q1 (Int32.toNatClampNeg 0) (D.1 85 0)).1 85 1)) q1 (Int32.toNatClampNeg 2) ((pu_wi (pu_wi D q1 (Int32.toNatClampNeg 0) (D.1 85 0)) q1 (Int32.toNatClampNeg 1) ((pu_wi D q1 (Int32.toNatClampNeg 0) (D.1 85 0)).1 85 1)).1 85 2)).1 85 3)).1 85 4)).1 85 5)).1 85 6)) q1 (Int32.toNatClampNeg 7) ((pu_wi (pu_wi (pu_wi (pu_wi (pu_wi (pu_wi (pu_wi D q1 (Int32.toNatClampNeg 0) (D.1 85 0)) q1 (Int32.toNatClampNeg 1) ((pu_wi D q1 (Int32.toNatClampNeg 0) (D.1 85 0)).1 85 1)) q1 (Int32.toNatClampNeg 2) ((pu_wi (pu_wi D q1 (Int32.toNatClampNeg 0) (D.1 85 0)) q1 (Int32.toNatClampNeg 1) ((pu_wi D q1 (Int32.toNatClampNeg 0) (D.1 85 0)).1 85 1)).1 85 2)) q1 (Int32.toNatClampNeg 3) ((pu_wi (pu_wi (pu_wi D q1 (Int32.toNatClampNeg 0) (D.1 85 0)) q1 (Int32.toNatClampNeg 1) ((pu_wi D q1 (Int32.toNatClampNeg 0) (D.1 85 0)).1 85 1)) q1 (Int32.toNatClampNeg 2) ((pu_wi (pu_wi D q1 (Int32.toNatClampNeg 0) (D.1 85 0)) q1 (Int32.toNatClampNeg 1) ((pu_wi D q1 (Int32.toNatClampNeg 0) (D.1 85 0)).1 85 1)).1 85 2)).1 85 3)) q1 (Int32.toNatClampNeg 4) ((pu_wi (pu_wi (pu_wi (pu_wi D q1 (Int32.toNatClampNeg 0) (D.1 85 0)) q1 (Int32.toNatClampNeg 1) ((pu_wi D q1 (Int32.toNatClampNeg 0) (D.1 85 0)).1 85 1)) q1 (Int32.toNatClampNeg 2) ((pu_wi (pu_wi D q1 (Int32.toNatClampNeg 0) (D.1 85 0)) q1 (Int32.toNatClampNeg 1) ((pu_wi D q1 (Int32.toNatClampNeg 0) (D.1 85 0)).1 85 1)).1 85 2)) q1 (Int32.toNatClampNeg 3) ((pu_wi (pu_wi (pu_wi D q1 (Int32.toNatClampNeg 0) (D.1 85 0)) q1 (Int32.toNatClampNeg 1) ((pu_wi D q1 (Int32.toNatClampNeg 0) (D.1 85 0)).1 85 1)) q1 (Int32.toNatClampNeg 2) ((pu_wi (pu_wi D q1 (Int32.toNatClampNeg 0) (D.1 85 0)) q1 (Int32.toNatClampNeg 1) ((pu_wi D q1 (Int32.toNatClampNeg 0) (D.1 85 0)).1 85 1)).1 85 2)).1 85 3)).1 85 4)) q1 (Int32.toNatClampNeg 5) ((pu_wi (pu_wi (pu_wi (pu_wi (pu_wi D q1 (Int32.toNatClampNeg 0) (D.1 85 0)) q1 (Int32.toNatClampNeg 1) ((pu_wi D q1 (Int32.toNatClampNeg 0) (D.1 85 0)).1 85 1)) q1 (Int32.toNatClampNeg 2) ((pu_wi (pu_wi D q1 (Int32.toNatClampNeg 0) (D.1 85 0)) q1 (Int32.toNatClampNeg 1) ((pu_wi D q1 (Int32.toNatClampNeg 0) (D.1 85 0)).1 85 1)).1 85 2)) q1 (Int32.toNatClampNeg 3) ((pu_wi (pu_wi (pu_wi D q1 (Int32.toNatClampNeg 0) (D.1 85 0)) q1 (Int32.toNatClampNeg 1) ((pu_wi D q1 (Int32.toNatClampNeg 0) (D.1 85 0)).1 85 1)) q1 (Int32.toNatClampNeg 2) ((pu_wi (pu_wi D q1 (Int32.toNatClampNeg 0) (D.1 85 0)) q1 (Int32.toNatClampNeg 1) ((pu_wi D q1 (Int32.toNatClampNeg 0) (D.1 85 0)).1 85 1)).1 85 2)).1 85 3)) q1 (Int32.toNatClampNeg 4) ((pu_wi (pu_wi (pu_wi (pu_wi D q1 (Int32.toNatClampNeg 0) (D.1 85 0)) q1 (Int32.toNatClampNeg 1) ((pu_wi D q1 (Int32.toNatClampNeg 0) (D.1 85 0)).1 85 1)) q1 (Int32.toNatClampNeg 2) ((pu_wi (pu_wi D q1 (Int32.toNatClampNeg 0) (D.1 85 0)) q1 (Int32.toNatClampNeg 1) ((pu_wi D q1 (Int32.toNatClampNeg 0) (D.1 85 0)).1 85 1)).1 85 2)) q1 (Int32.toNatClampNeg 3) ((pu_wi (pu_wi (pu_wi D q1 (Int32.toNatClampNeg 0) (D.1 85 0)) q1 (Int32.toNatClampNeg 1) ((pu_wi D q1 (Int32.toNatClampNeg 0) (D.1 85 0)).1 85 1)) q1 (Int32.toNatClampNeg 2) ((pu_wi (pu_wi D q1 (Int32.toNatClampNeg 0) (D.1 85 0)) q1 (Int32.toNatClampNeg 1) ((pu_wi D q1 (Int32.toNatClampNeg 0) (D.1 85 0)).1 85 1)).1 85 2)).1 85 3)).1 85 4)).1 85 5)) q1 (Int32.toNatClampNeg 6) ((pu_wi (pu_wi (pu_wi (pu_wi (pu_wi (pu_wi D q1 (Int32.toNatClampNeg 0) (D.1 85 0)) q1 (Int32.toNatClampNeg 1) ((pu_wi D q1 (Int32.toNatClampNeg 0) (D.1 85 0)).1 85 1)) q1 (Int32.toNatClampNeg 2) ((pu_wi (pu_wi D q1 (Int32.toNatClampNeg 0) (D.1 85 0)) q1 (Int32.toNatClampNeg 1) ((pu_wi D q1 (Int32.toNatClampNeg 0) (D.1 85 0)).1 85 1)).1 85 2)) q1 (Int32.toNatClampNeg 3) ((pu_wi (pu_wi (pu_wi D q1 (Int32.toNatClampNeg 0) (D.1 85 0)) q1 (Int32.toNatClampNeg 1) ((pu_wi D q1 (Int32.toNatClampNeg 0) (D.1 85 0)).1 85 1)) q1 (Int32.toNatClampNeg 2) ((pu_wi (pu_wi D q1 (Int32.toNatClampNeg 0) (D.1 85 0)) q1 (Int32.toNatClampNeg 1) ((pu_wi D q1 (Int32.toNatClampNeg 0) (D.1 85 0)).1 85 1)).1 85 2)).1 85 3)) q1 (Int32.toNatClampNeg 4) ((pu_wi (pu_wi (pu_wi (pu_wi D q1 (Int32.toNatClampNeg 0) (D.1 85 0)) q1 (Int32.toNatClampNeg 1) ((pu_wi D q1 (Int32.toNatClampNeg 0) (D.1 85 0)).1 85 1)) q1 (Int32.toNatClampNeg 2) ((pu_wi (pu_wi D q1 (Int32.toNatClampNeg 0) (D.1 85 0)) q1 (Int32.toNatClampNeg 1) ((pu_wi D q1 (Int32.toNatClampNeg 0) (D.1 85 0)).1 85 1)).1 85 2)) q1 (Int32.toNatClampNeg 3) ((pu_wi (pu_wi (pu_wi D q1 (Int32.toNatClampNeg 0) (D.1 85 0)) q1 (Int32.toNatClampNeg 1) ((pu_wi D q1 (Int32.toNatClampNeg 0) (D.1 85 0)).1 85 1)) q1 (Int32.toNatClampNeg 2) ((pu_wi (pu_wi D q1 (Int32.toNatClampNeg 0) (D.1 85 0)) q1 (Int32.toNatClampNeg 1) ((pu_wi D q1 (Int32.toNatClampNeg 0) (D.1 85 0)).1 85 1)).1 85 2)).1 85 3)).1 85 4)) q1 (Int32.toNatClampNeg 5) ((pu_wi (pu_wi (pu_wi (pu_wi (pu_wi D q1 (Int32.toNatClampNeg 0) (D.1 85 0)) q1 (Int32.toNatClampNeg 1) ((pu_wi D q1 (Int32.toNatClampNeg 0) (D.1 85 0)).1 85 1)) q1 (Int32.toNatClampNeg 2) ((pu_wi (pu_wi D q1 (Int32.toNatClampNeg 0) (D.1 85 0)) q1 (Int32.toNatClampNeg 1) ((pu_wi D q1 (Int32.toNatClampNeg 0) (D.1 85 0)).1 85 1)).1 85 2)) q1 (Int32.toNatClampNeg 3) ((pu_wi (pu_wi (pu_wi D q1 (Int32.toNatClampNeg 0) (D.1 85 0)) q1 (Int32.toNatClampNeg 1) ((pu_wi D q1 (Int32.toNatClampNeg 0) (D.1 85 0)).1 85 1)) q1 (Int32.toNatClampNeg 2) ((pu_wi (pu_wi D q1 (Int32.toNatClampNeg 0) (D.1 85 0)) q1 (Int32.toNatClampNeg 1) ((pu_wi D q1 (Int32.toNatClampNeg 0) (D.1 85 0)).1 85 1)).1 85 2)).1 85 3)) q1 (Int32.toNatClampNeg 4) ((pu_wi (pu_wi (pu_wi (pu_wi D q1 (Int32.toNatClampNeg 0) (D.1 85 0)) q1 (Int32.toNatClampNeg 1) ((pu_wi D q1 (Int32.toNatClampNeg 0) (D.1 85 0)).1 85 1)) q1 (Int32.toNatClampNeg 2) ((pu_wi (pu_wi D q1 (Int32.toNatClampNeg 0) (D.1 85 0)) q1 (Int32.toNatClampNeg 1) ((pu_wi D q1 (Int32.toNatClampNeg 0) (D.1 85 0)).1 85 1)).1 85 2)) q1 (Int32.toNatClampNeg 3) ((pu_wi (pu_wi (pu_wi D q1 (Int32.toNatClampNeg 0) (D.1 85 0)) q1 (Int32.toNatClampNeg 1) ((pu_wi D q1 (Int32.toNatClampNeg 0) (D.1 85 0)).1 85 1)) q1 (Int32.toNatClampNeg 2) ((pu_wi (pu_wi D q1 (Int32.toNatClampNeg 0) (D.1 85 0)) q1 (Int32.toNatClampNeg 1) ((pu_wi D q1 (Int32.toNatClampNeg 0) (D.1 85 0)).1 85 1)).1 85 2)).1 85 3)).1 85 4)).1 85 5)).1 85 6)).1 85 7)).1 85 8)) q1 (Int32.toNatClampNeg 9) ((pu_wi (pu_wi (pu_wi (pu_wi (pu_wi (pu_wi (pu_wi (pu_wi (pu_wi D q1 (Int32.toNatClampNeg 0) (D.1 85 0)) q1 (Int32.toNatClampNeg 1) ((pu_wi D q1 (Int32.toNatClampNeg 0) (D.1 85 0)).1 85 1)) q1 (Int32.toNatClampNeg 2) ((pu_wi (pu_wi D q1 (Int32.toNatClampNeg 0) (D.1 85 0)) q1 (Int32.toNatClampNeg 1) ((pu_wi D q1 (Int32.toNatClampNeg 0) (D.1 85 0)).1 85 1)).1 85 2)) q1 (Int32.toNatClampNeg 3) ((pu_wi (pu_wi (pu_wi D q1 (Int32.toNatClampNeg 0) (D.1 85 0)) q1 (Int32.toNatClampNeg 1) ((pu_wi D q1 (Int32.toNatClampNeg 0) (D.1 85 0)).1 85 1)) q1 (Int32.toNatClampNeg 2) ((pu_wi (pu_wi D q1 (Int32.toNatClampNeg 0) (D.1 85 0)) q1 (Int32.toNatClampNeg 1) ((pu_wi D q1 (Int32.toNatClampNeg 0) (D.1 85 0)).1 85 1)).1 85 2)).1 85 3)) q1 (Int32.toNatClampNeg 4) ((pu_wi (pu_wi (pu_wi (pu_wi D q1 (Int32.toNatClampNeg 0) (D.1 85 0)) q1 (Int32.toNatClampNeg 1) ((pu_wi D q1 (Int32.toNatClampNeg 0) (D.1 85 0)).1 85 1)) q1 (Int32.toNatClampNeg 2) ((pu_wi (pu_wi D q1 (Int32.toNatClampNeg 0) (D.1 85 0)) q1 (Int32.toNatClampNeg 1) ((pu_wi D q1 (Int32.toNatClampNeg 0) (D.1 85 0)).1 85 1)).1 85 2)) q1 (Int32.toNatClampNeg 3) ((pu_wi (pu_wi (pu_wi D q1 (Int32.toNatClampNeg 0) (D.1 85 0)) q1 (Int32.toNatClampNeg 1) ((pu_wi D q1 (Int32.toNatClampNeg 0) (D.1 85 0)).1 85 1)) q1 (Int32.toNatClampNeg 2) ((pu_wi (pu_wi D q1 (Int32.toNatClampNeg 0) (D.1 85 0)) q1 (Int32.toNatClampNeg 1) ((pu_wi D q1 (Int32.toNatClampNeg 0) (D.1 85 0)).1 85 1)).1 85 2)).1 85 3)).1 85 4)) q1 (Int32.toNatClampNeg 5) ((pu_wi (pu_wi (pu_wi (pu_wi (pu_wi D q1 (Int32.toNatClampNeg 0) (D.1 85 0)) q1 (Int32.toNatClampNeg 1) ((pu_wi D q1 (Int32.toNatClampNeg 0) (D.1 85 0)).1 85 1)) q1 (Int32.toNatClampNeg 2) ((pu_wi (pu_wi D q1 (Int32.toNatClampNeg 0) (D.1 85 0)) q1 (Int32.toNatClampNeg 1) ((pu_wi D q1 (Int32.toNatClampNeg 0) (D.1 85 0)).1 85 1)).1 85 2)) q1 (Int32.toNatClampNeg 3) ((pu_wi (pu_wi (pu_wi D q1 (Int32.toNatClampNeg 0) (D.1 85 0)) q1 (Int32.toNatClampNeg 1) ((pu_wi D q1 (Int32.toNatClampNeg 0) (D.1 85 0)).1 85 1)) q1 (Int32.toNatClampNeg 2) ((pu_wi (pu_wi D q1 (Int32.toNatClampNeg 0) (D.1 85 0)) q1 (Int32.toNatClampNeg 1) ((pu_wi D q1 (Int32.toNatClampNeg 0) (D.1 85 0)).1 85 1)).1 85 2)).1 85 3)) q1 (Int32.toNatClampNeg 4) ((pu_wi (pu_wi (pu_wi (pu_wi D q1 (Int32.toNatClampNeg 0) (D.1 85 0)) q1 (Int32.toNatClampNeg 1) ((pu_wi D q1 (Int32.toNatClampNeg 0) (D.1 85 0)).1 85 1)) q1 (Int32.toNatClampNeg 2) ((pu_wi (pu_wi D q1 (Int32.toNatClampNeg 0) (D.1 85 0)) q1 (Int32.toNatClampNeg 1) ((pu_wi D q1 (Int32.toNatClampNeg 0) (D.1 85 0)).1 85 1)).1 85 2)) q1 (Int32.toNatClampNeg 3) ((pu_wi (pu_wi (pu_wi D q1 (Int32.toNatClampNeg 0) (D.1 85 0)) q1 (Int32.toNatClampNeg 1) ((pu_wi D q1 (Int32.toNatClampNeg 0) (D.1 85 0)).1 85 1)) q1 (Int32.toNatClampNeg 2) ((pu_wi (pu_wi D q1 (Int32.toNatClampNeg 0) (D.1 85 0)) q1 (Int32.toNatClampNeg 1) ((pu_wi D q1 (Int32.toNatClampNeg 0) (D.1 85 0)).1 85 1)).1 85 2)).1 85 3)).1 85 4)).1 85 5)) q1 (Int32.toNatClampNeg 6) ((pu_wi (pu_wi (pu_wi (pu_wi (pu_wi (pu_wi D q1 (Int32.toNatClampNeg 0) (D.1 85 0)) q1 (Int32.toNatClampNeg 1) ((pu_wi D q1 (Int32.toNatClampNeg 0) (D.1 85 0)).1 85 1)) q1 (Int32.toNatClampNeg 2) ((pu_wi (pu_wi D q1 (Int32.toNatClampNeg 0) (D.1 85 0)) q1 (Int32.toNatClampNeg 1) ((pu_wi D q1 (Int32.toNatClampNeg 0) (D.1 85 0)).1 85 1)).1 85 2)) q1 (Int32.toNatClampNeg 3) ((pu_wi (pu_wi (pu_wi D q1 (Int32.toNatClampNeg 0) (D.1 85 0)) q1 (Int32.toNatClampNeg 1) ((pu_wi D q1 (Int32.toNatClampNeg 0) (D.1 85 0)).1 85 1)) q1 (Int32.toNatClampNeg 2) ((pu_wi (pu_wi D q1 (Int32.toNatClampNeg 0) (D.1 85 0)) q1 (Int32.toNatClampNeg 1) ((pu_wi D q1 (Int32.toNatClampNeg 0) (D.1 85 0)).1 85 1)).1 85 2)).1 85 3)) q1 (Int32.toNatClampNeg 4) ((pu_wi (pu_wi (pu_wi (pu_wi D q1 (Int32.toNatClampNeg 0) (D.1 85 0)) q1 (Int32.toNatClampNeg 1) ((pu_wi D q1 (Int32.toNatClampNeg 0) (D.1 85 0)).1 85 1)) q1 (Int32.toNatClampNeg 2) ((pu_wi (pu_wi D q1 (Int32.toNatClampNeg 0) (D.1 85 0)) q1 (Int32.toNatClampNeg 1) ((pu_wi D q1 (Int32.toNatClampNeg 0) (D.1 85 0)).1 85 1)).1 85 2)) q1 (Int32.toNatClampNeg 3) ((pu_wi (pu_wi (pu_wi D q1 (Int32.toNatClampNeg 0) (D.1 85 0)) q1 (Int32.toNatClampNeg 1) ((pu_wi D q1 (Int32.toNatClampNeg 0) (D.1 85 0)).1 85 1)) q1 (Int32.toNatClampNeg 2) ((pu_wi (pu_wi D q1 (Int32.toNatClampNeg 0) (D.1 85 0)) q1 (Int32.toNatClampNeg 1) ((pu_wi D q1 (Int32.toNatClampNeg 0) (D.1 85 0)).1 85 1)).1 85 2)).1 85 3)).1 85 4)) q1 (Int32.toNatClampNeg 5) ((pu_wi (pu_wi (pu_wi (pu_wi (pu_wi D q1 (Int32.toNatClampNeg 0) (D.1 85 0)) q1 (Int32.toNatClampNeg 1) ((pu_wi D q1 (Int32.toNatClampNeg 0) (D.1 85 0)).1 85 1)) q1 (Int32.toNatClampNeg 2) ((pu_wi (pu_wi D q1 (Int32.toNatClampNeg 0) (D.1 85 0)) q1 (Int32.toNatClampNeg 1) ((pu_wi D q1 (Int32.toNatClampNeg 0) (D.1 85 0)).1 85 1)).1 85 2)) q1 (Int32.toNatClampNeg 3) ((pu_wi (pu_wi (pu_wi D q1 (Int32.toNatClampNeg 0) (D.1 85 0)) q1 (Int32.toNatClampNeg 1) ((pu_wi D q1 (Int32.toNatClampNeg 0) (D.1 85 0)).1 85 1)) q1 (Int32.toNatClampNeg 2) ((pu_wi (pu_wi D q1 (Int32.toNatClampNeg 0) (D.1 85 0)) q1 (Int32.toNatClampNeg 1) ((pu_wi D q1 (Int32.toNatClampNeg 0) (D.1 85 0)).1 85 1)).1 85 2)).1 85 3)) q1 (Int32.toNatClampNeg 4) ((pu_wi (pu_wi (pu_wi (pu_wi D q1 (Int32.toNatClampNeg 0) (D.1 85 0)) q1 (Int32.toNatClampNeg 1) ((pu_wi D q1 (Int32.toNatClampNeg 0) (D.1 85 0)).1 85 1)) q1 (Int32.toNatClampNeg 2) ((pu_wi (pu_wi D q1 (Int32.toNatClampNeg 0) (D.1 85 0)) q1 (Int32.toNatClampNeg 1) ((pu_wi D q1 (Int32.toNatClampNeg 0) (D.1 85 0)).1 85 1)).1 85 2)) q1 (Int32.toNatClampNeg 3) ((pu_wi (pu_wi (pu_wi D q1 (Int32.toNatClampNeg 0) (D.1 85 0)) q1 (Int32.toNatClampNeg 1) ((pu_wi D q1 (Int32.toNatClampNeg 0) (D.1 85 0)).1 85 1)) q1 (Int32.toNatClampNeg 2) ((pu_wi (pu_wi D q1 (Int32.toNatClampNeg 0) (D.1 85 0)) q1 (Int32.toNatClampNeg 1) ((pu_wi D q1 (Int32.toNatClampNeg 0) (D.1 85 0)).1 85 1)).1 85 2)).1 85 3)).1 85 4)).1 85 5)).1 85 6)) q1 (Int32.toNatClampNeg 7) ((pu_wi (pu_wi (pu_wi (pu_wi (pu_wi (pu_wi (pu_wi D q1 (Int32.toNatClampNeg 0) (D.1 85 0)) q1 (Int32.toNatClampNeg 1) ((pu_wi D q1 (Int32.toNatClampNeg 0) (D.1 85 0)).1 85 1)) q1 (Int32.toNatClampNeg 2) ((pu_wi (pu_wi D q1 (Int32.toNatClampNeg 0) (D.1 85 0)) q1 (Int32.toNatClampNeg 1) ((pu_wi D q1 (Int32.toNatClampNeg 0) (D.1 85 0)).1 85 1)).1 85 2)) q1 (Int32.toNatClampNeg 3) ((pu_wi (pu_wi (pu_wi D q1 (Int32.toNatClampNeg 0) (D.1 85 0)) q1 (Int32.toNatClampNeg 1) ((pu_wi D q1 (Int32.toNatClampNeg 0) (D.1 85 0)).1 85 1)) q1 (Int32.toNatClampNeg 2) ((pu_wi (pu_wi D q1 (Int32.toNatClampNeg 0) (D.1 85 0)) q1 (Int32.toNatClampNeg 1) ((pu_wi D q1 (Int32.toNatClampNeg 0) (D.1 85 0)).1 85 1)).1 85 2)).1 85 3)) q1 (Int32.toNatClampNeg 4) ((pu_wi (pu_wi (pu_wi (pu_wi D q1 (Int32.toNatClampNeg 0) (D.1 85 0)) q1 (Int32.toNatClampNeg 1) ((pu_wi D q1 (Int32.toNatClampNeg 0) (D.1 85 0)).1 85 1)) q1 (Int32.toNatClampNeg 2) ((pu_wi (pu_wi D q1 (Int32.toNatClampNeg 0) (D.1 85 0)) q1 (Int32.toNatClampNeg 1) ((pu_wi D q1 (Int32.toNatClampNeg 0) (D.1 85 0)).1 85 1)).1 85 2)) q1 (Int32.toNatClampNeg 3) ((pu_wi (pu_wi (pu_wi D q1 (Int32.toNatClampNeg 0) (D.1 85 0)) q1 (Int32.toNatClampNeg 1) ((pu_wi D q1 (Int32.toNatClampNeg 0) (D.1 85 0)).1 85 1)) q1 (Int32.toNatClampNeg 2) ((pu_wi (pu_wi D q1 (Int32.toNatClampNeg 0) (D.1 85 0)) q1 (Int32.toNatClampNeg 1) ((pu_wi D q1 (Int32.toNatClampNeg 0) (D.1 85 0)).1 85 1)).1 85 2)).1 85 3)).1 85 4)) q1 (Int32.toNatClampNeg 5) ((pu_wi (pu_wi (pu_wi (pu_wi (pu_wi D q1 (Int32.toNatClampNeg 0) (D.1 85 0)) q1 (Int32.toNatClampNeg 1) ((pu_wi D q1 (Int32.toNatClampNeg 0) (D.1 85 0)).1 85 1)) q1 (Int32.toNatClampNeg 2) ((pu_wi (pu_wi D q1 (Int32.toNatClampNeg 0) (D.1 85 0)) q1 (Int32.toNatClampNeg 1) ((pu_wi D q1 (Int32.toNatClampNeg 0) (D.1 85 0)).1 85 1)).1 85 2)) q1 (Int32.toNatClampNeg 3) ((pu_wi (pu_wi (pu_wi D q1 (Int32.toNatClampNeg 0) (D.1 85 0)) q1 (Int32.toNatClampNeg 1) ((pu_wi D q1 (Int32.toNatClampNeg 0) (D.1 85 0)).1 85 1)) q1 (Int32.toNatClampNeg 2) ((pu_wi (pu_wi D q1 (Int32.toNatClampNeg 0) (D.1 85 0)) q1 (Int32.toNatClampNeg 1) ((pu_wi D q1 (Int32.toNatClampNeg 0) (D.1 85 0)).1 85 1)).1 85 2)).1 85 3)) q1 (Int32.toNatClampNeg 4) ((pu_wi (pu_wi (pu_wi (pu_wi D q1 (Int32.toNatClampNeg 0) (D.1 85 0)) q1 (Int32.toNatClampNeg 1) ((pu_wi D q1 (Int32.toNatClampNeg 0) (D.1 85 0)).1 85 1)) q1 (Int32.toNatClampNeg 2) ((pu_wi (pu_wi D q1 (Int32.toNatClampNeg 0) (D.1 85 0)) q1 (Int32.toNatClampNeg 1) ((pu_wi D q1 (Int32.toNatClampNeg 0) (D.1 85 0)).1 85 1)).1 85 2)) q1 (Int32.toNatClampNeg 3) ((pu_wi (pu_wi (pu_wi D q1 (Int32.toNatClampNeg 0) (D.1 85 0)) q1 (Int32.toNatClampNeg 1) ((pu_wi D q1 (Int32.toNatClampNeg 0) (D.1 85 0)).1 85 1)) q1 (Int32.toNatClampNeg 2) ((pu_wi (pu_wi D q1 (Int32.toNatClampNeg 0) (D.1 85 0)) q1 (Int32.toNatClampNeg 1) ((pu_wi D q1 (Int32.toNatClampNeg 0) (D.1 85 0)).1 85 1)).1 85 2)).1 85 3)).1 85 4)).1 85 5)) q1 (Int32.toNatClampNeg 6) ((pu_wi (pu_wi (pu_wi (pu_wi (pu_wi (pu_wi D q1 (Int32.toNatClampNeg 0) (D.1 85 0)) q1 (Int32.toNatClampNeg 1) ((pu_wi D q1 (Int32.toNatClampNeg 0) (D.1 85 0)).1 85 1)) q1 (Int32.toNatClampNeg 2) ((pu_wi (pu_wi D q1 (Int32.toNatClampNeg 0) (D.1 85 0)) q1 (Int32.toNatClampNeg 1) ((pu_wi D q1 (Int32.toNatClampNeg 0) (D.1 85 0)).1 85 1)).1 85 2)) q1 (Int32.toNatClampNeg 3) ((pu_wi (pu_wi (pu_wi D q1 (Int32.toNatClampNeg 0) (D.1 85 0)) q1 (Int32.toNatClampNeg 1) ((pu_wi D q1 (Int32.toNatClampNeg 0) (D.1 85 0)).1 85 1)) q1 (Int32.toNatClampNeg 2) ((pu_wi (pu_wi D q1 (Int32.toNatClampNeg 0) (D.1 85 0)) q1 (Int32.toNatClampNeg 1) ((pu_wi D q1 (Int32.toNatClampNeg 0) (D.1 85 0)).1 85 1)).1 85 2)).1 85 3)) q1 (Int32.toNatClampNeg 4) ((pu_wi (pu_wi (pu_wi (pu_wi D q1 (Int32.toNatClampNeg 0) (D.1 85 0)) q1 (Int32.toNatClampNeg 1) ((pu_wi D q1 (Int32.toNatClampNeg 0) (D.1 85 0)).1 85 1)) q1 (Int32.toNatClampNeg 2) ((pu_wi (pu_wi D q1 (Int32.toNatClampNeg 0) (D.1 85 0)) q1 (Int32.toNatClampNeg 1) ((pu_wi D q1 (Int32.toNatClampNeg 0) (D.1 85 0)).1 85 1)).1 85 2)) q1 (Int32.toNatClampNeg 3) ((pu_wi (pu_wi (pu_wi D q1 (Int32.toNatClampNeg 0) (D.1 85 0)) q1 (Int32.toNatClampNeg 1) ((pu_wi D q1 (Int32.toNatClampNeg 0) (D.1 85 0)).1 85 1)) q1 (Int32.toNatClampNeg 2) ((pu_wi (pu_wi D q1 (Int32.toNatClampNeg 0) (D.1 85 0)) q1 (Int32.toNatClampNeg 1) ((pu_wi D q1 (Int32.toNatClampNeg 0) (D.1 85 0)).1 85 1)).1 85 2)).1 85 3)).1 85 4)) q1 (Int32.toNatClampNeg 5) ((pu_wi (pu_wi (pu_wi (pu_wi (pu_wi D q1 (Int32.toNatClampNeg 0) (D.1 85 0)) q1 (Int32.toNatClampNeg 1) ((pu_wi D q1 (Int32.toNatClampNeg 0) (D.1 85 0)).1 85 1)) q1 (Int32.toNatClampNeg 2) ((pu_wi (pu_wi D q1 (Int32.toNatClampNeg 0) (D.1 85 0)) q1 (Int32.toNatClampNeg 1) ((pu_wi D q1 (Int32.toNatClampNeg 0) (D.1 85 0)).1 85 1)).1 85 2)) q1 (Int32.toNatClampNeg 3) ((pu_wi (pu_wi (pu_wi D q1 (Int32.toNatClampNeg 0) (D.1 85 0)) q1 (Int32.toNatClampNeg 1) ((pu_wi D q1 (Int32.toNatClampNeg 0) (D.1 85 0)).1 85 1)) q1 (Int32.toNatClampNeg 2) ((pu_wi (pu_wi D q1 (Int32.toNatClampNeg 0) (D.1 85 0)) q1 (Int32.toNatClampNeg 1) ((pu_wi D q1 (Int32.toNatClampNeg 0) (D.1 85 0)).1 85 1)).1 85 2)).1 85 3)) q1 (Int32.toNatClampNeg 4) ((pu_wi (pu_wi (pu_wi (pu_wi D q1 (Int32.toNatClampNeg 0) (D.1 85 0)) q1 (Int32.toNatClampNeg 1) ((pu_wi D q1 (Int32.toNatClampNeg 0) (D.1 85 0)).1 85 1)) q1 (Int32.toNatClampNeg 2) ((pu_wi (pu_wi D q1 (Int32.toNatClampNeg 0) (D.1 85 0)) q1 (Int32.toNatClampNeg 1) ((pu_wi D q1 (Int32.toNatClampNeg 0) (D.1 85 0)).1 85 1)).1 85 2)) q1 (Int32.toNatClampNeg 3) ((pu_wi (pu_wi (pu_wi D q1 (Int32.toNatClampNeg 0) (D.1 85 0)) q1 (Int32.toNatClampNeg 1) ((pu_wi D q1 (Int32.toNatClampNeg 0) (D.1 85 0)).1 85 1)) q1 (Int32.toNatClampNeg 2) ((pu_wi (pu_wi D q1 (Int32.toNatClampNeg 0) (D.1 85 0)) q1 (Int32.toNatClampNeg 1) ((pu_wi D q1 (Int32.toNatClampNeg 0) (D.1 85 0)).1 85 1)).1 85 2)).1 85 3)).1 85 4)).1 85 5)).1 85 6)).1 85 7)) q1 (Int32.toNatClampNeg 8) ((pu_wi (pu_wi (pu_wi (pu_wi (pu_wi (pu_wi (pu_wi (pu_wi D q1 (Int32.toNatClampNeg 0) (D.1 85 0)) q1 (Int32.toNatClampNeg 1) ((pu_wi D q1 (Int32.toNatClampNeg 0) (D.1 85 0)).1 85 1)) q1 (Int32.toNatClampNeg 2) ((pu_wi (pu_wi D q1 (Int32.toNatClampNeg 0) (D.1 85 0)) q1 (Int32.toNatClampNeg 1) ((pu_wi D q1 (Int32.toNatClampNeg 0) (D.1 85 0)).1 85 1)).1 85 2)) q1 (Int32.toNatClampNeg 3) ((pu_wi (pu_wi (pu_wi D q1 (Int32.toNatClampNeg 0) (D.1 85 0)) q1 (Int32.toNatClampNeg 1) ((pu_wi D q1 (Int32.toNatClampNeg 0) (D.1 85 0)).1 85 1)) q1 (Int32.toNatClampNeg 2) ((pu_wi (pu_wi D q1 (Int32.toNatClampNeg 0) (D.1 85 0)) q1 (Int32.toNatClampNeg 1) ((pu_wi D q1 (Int32.toNatClampNeg 0) (D.1 85 0)).1 85 1)).1 85 2)).1 85 3)) q1 (Int32.toNatClampNeg 4) ((pu_wi (pu_wi (pu_wi (pu_wi D q1 (Int32.toNatClampNeg 0) (D.1 85 0)) q1 (Int32.toNatClampNeg 1) ((pu_wi D q1 (Int32.toNatClampNeg 0) (D.1 85 0)).1 85 1)) q1 (Int32.toNatClampNeg 2) ((pu_wi (pu_wi D q1 (Int32.toNatClampNeg 0) (D.1 85 0)) q1 (Int32.toNatClampNeg 1) ((pu_wi D q1 (Int32.toNatClampNeg 0) (D.1 85 0)).1 85 1)).1 85 2)) q1 (Int32.toNatClampNeg 3) ((pu_wi (pu_wi (pu_wi D q1 (Int32.toNatClampNeg 0) (D.1 85 0)) q1 (Int32.toNatClampNeg 1) ((pu_wi D q1 (Int32.toNatClampNeg 0) (D.1 85 0)).1 85 1)) q1 (Int32.toNatClampNeg 2) ((pu_wi (pu_wi D q1 (Int32.toNatClampNeg 0) (D.1 85 0)) q1 (Int32.toNatClampNeg 1) ((pu_wi D q1 (Int32.toNatClampNeg 0) (D.1 85 0)).1 85 1)).1 85 2)).1 85 3)).1 85 4)) q1 (Int32.toNatClampNeg 5) ((pu_wi (pu_wi (pu_wi (pu_wi (pu_wi D q1 (Int32.toNatClampNeg 0) (D.1 85 0)) q1 (Int32.toNatClampNeg 1) ((pu_wi D q1 (Int32.toNatClampNeg 0) (D.1 85 0)).1 85 1)) q1 (Int32.toNatClampNeg 2) ((pu_wi (pu_wi D q1 (Int32.toNatClampNeg 0) (D.1 85 0)) q1 (Int32.toNatClampNeg 1) ((pu_wi D q1 (Int32.toNatClampNeg 0) (D.1 85 0)).1 85 1)).1 85 2)) q1 (Int32.toNatClampNeg 3) ((pu_wi (pu_wi (pu_wi D q1 (Int32.toNatClampNeg 0) (D.1 85 0)) q1 (Int32.toNatClampNeg 1) ((pu_wi D q1 (Int32.toNatClampNeg 0) (D.1 85 0)).1 85 1)) q1 (Int32.toNatClampNeg 2) ((pu_wi (pu_wi D q1 (Int32.toNatClampNeg 0) (D.1 85 0)) q1 (Int32.toNatClampNeg 1) ((pu_wi D q1 (Int32.toNatClampNeg 0) (D.1 85 0)).1 85 1)).1 85 2)).1 85 3)) q1 (Int32.toNatClampNeg 4) ((pu_wi (pu_wi (pu_wi (pu_wi D q1 (Int32.toNatClampNeg 0) (D.1 85 0)) q1 (Int32.toNatClampNeg 1) ((pu_wi D q1 (Int32.toNatClampNeg 0) (D.1 85 0)).1 85 1)) q1 (Int32.toNatClampNeg 2) ((pu_wi (pu_wi D q1 (Int32.toNatClampNeg 0) (D.1 85 0)) q1 (Int32.toNatClampNeg 1) ((pu_wi D q1 (Int32.toNatClampNeg 0) (D.1 85 0)).1 85 1)).1 85 2)) q1 (Int32.toNatClampNeg 3) ((pu_wi (pu_wi (pu_wi D q1 (Int32.toNatClampNeg 0) (D.1 85 0)) q1 (Int32.toNatClampNeg 1) ((pu_wi D q1 (Int32.toNatClampNeg 0) (D.1 85 0)).1 85 1)) q1 (Int32.toNatClampNeg 2) ((pu_wi (pu_wi D q1 (Int32.toNatClampNeg 0) (D.1 85 0)) q1 (Int32.toNatClampNeg 1) ((pu_wi D q1 (Int32.toNatClampNeg 0) (D.1 85 0)).1 85 1)).1 85 2)).1 85 3)).1 85 4)).1 85 5)) q1 (Int32.toNatClampNeg 6) ((pu_wi (pu_wi (pu_wi (pu_wi (pu_wi (pu_wi D q1 (Int32.toNatClampNeg 0) (D.1 85 0)) q1 (Int32.toNatClampNeg 1) ((pu_wi D q1 (Int32.toNatClampNeg 0) (D.1 85 0)).1 85 1)) q1 (Int32.toNatClampNeg 2) ((pu_wi (pu_wi D q1 (Int32.toNatClampNeg 0) (D.1 85 0)) q1 (Int32.toNatClampNeg 1) ((pu_wi D q1 (Int32.toNatClampNeg 0) (D.1 85 0)).1 85 1)).1 85 2)) q1 (Int32.toNatClampNeg 3) ((pu_wi (pu_wi (pu_wi D q1 (Int32.toNatClampNeg 0) (D.1 85 0)) q1 (Int32.toNatClampNeg 1) ((pu_wi D q1 (Int32.toNatClampNeg 0) (D.1 85 0)).1 85 1)) q1 (Int32.toNatClampNeg 2) ((pu_wi (pu_wi D q1 (Int32.toNatClampNeg 0) (D.1 85 0)) q1 (Int32.toNatClampNeg 1) ((pu_wi D q1 (Int32.toNatClampNeg 0) (D.1 85 0)).1 85 1)).1 85 2)).1 85 3)) q1 (Int32.toNatClampNeg 4) ((pu_wi (pu_wi (pu_wi (pu_wi D q1 (Int32.toNatClampNeg 0) (D.1 85 0)) q1 (Int32.toNatClampNeg 1) ((pu_wi D q1 (Int32.toNatClampNeg 0) (D.1 85 0)).1 85 1)) q1 (Int32.toNatClampNeg 2) ((pu_wi (pu_wi D q1 (Int32.toNatClampNeg 0) (D.1 85 0)) q1 (Int32.toNatClampNeg 1) ((pu_wi D q1 (Int32.toNatClampNeg 0) (D.1 85 0)).1 85 1)).1 85 2)) q1 (Int32.toNatClampNeg 3) ((pu_wi (pu_wi (pu_wi D q1 (Int32.toNatClampNeg 0) (D.1 85 0)) q1 (Int32.toNatClampNeg 1) ((pu_wi D q1 (Int32.toNatClampNeg 0) (D.1 85 0)).1 85 1)) q1 (Int32.toNatClampNeg 2) ((pu_wi (pu_wi D q1 (Int32.toNatClampNeg 0) (D.1 85 0)) q1 (Int32.toNatClampNeg 1) ((pu_wi D q1 (Int32.toNatClampNeg 0) (D.1 85 0)).1 85 1)).1 85 2)).1 85 3)).1 85 4)) q1 (Int32.toNatClampNeg 5) ((pu_wi (pu_wi (pu_wi (pu_wi (pu_wi D q1 (Int32.toNatClampNeg 0) (D.1 85 0)) q1 (Int32.toNatClampNeg 1) ((pu_wi D q1 (Int32.toNatClampNeg 0) (D.1 85 0)).1 85 1)) q1 (Int32.toNatClampNeg 2) ((pu_wi (pu_wi D q1 (Int32.toNatClampNeg 0) (D.1 85 0)) q1 (Int32.toNatClampNeg 1) ((pu_wi D q1 (Int32.toNatClampNeg 0) (D.1 85 0)).1 85 1)).1 85 2)) q1 (Int32.toNatClampNeg 3) ((pu_wi (pu_wi (pu_wi D q1 (Int32.toNatClampNeg 0) (D.1 85 0)) q1 (Int32.toNatClampNeg 1) ((pu_wi D q1 (Int32.toNatClampNeg 0) (D.1 85 0)).1 85 1)) q1 (Int32.toNatClampNeg 2) ((pu_wi (pu_wi D q1 (Int32.toNatClampNeg 0) (D.1 85 0)) q1 (Int32.toNatClampNeg 1) ((pu_wi D q1 (Int32.toNatClampNeg 0) (D.1 85 0)).1 85 1)).1 85 2)).1 85 3)) q1 (Int32.toNatClampNeg 4) ((pu_wi (pu_wi (pu_wi (pu_wi D q1 (Int32.toNatClampNeg 0) (D.1 85 0)) q1 (Int32.toNatClampNeg 1) ((pu_wi D q1 (Int32.toNatClampNeg 0) (D.1 85 0)).1 85 1)) q1 (Int32.toNatClampNeg 2) ((pu_wi (pu_wi D q1 (Int32.toNatClampNeg 0) (D.1 85 0)) q1 (Int32.toNatClampNeg 1) ((pu_wi D q1 (Int32.toNatClampNeg 0) (D.1 85 0)).1 85 1)).1 85 2)) q1 (Int32.toNatClampNeg 3) ((pu_wi (pu_wi (pu_wi D q1 (Int32.toNatClampNeg 0) (D.1 85 0)) q1 (Int32.toNatClampNeg 1) ((pu_wi D q1 (Int32.toNatClampNeg 0) (D.1 85 0)).1 85 1)) q1 (Int32.toNatClampNeg 2) ((pu_wi (pu_wi D q1 (Int32.toNatClampNeg 0) (D.1 85 0)) q1 (Int32.toNatClampNeg 1) ((pu_wi D q1 (Int32.toNatClampNeg 0) (D.1 85 0)).1 85 1)).1 85 2)).1 85 3)).1 85 4)).1 85 5)).1 85 6)) q1 (Int32.toNatClampNeg 7) ((pu_wi (pu_wi (pu_wi (pu_wi (pu_wi (pu_wi (pu_wi D q1 (Int32.toNatClampNeg 0) (D.1 85 0)) q1 (Int32.toNatClampNeg 1) ((pu_wi D q1 (Int32.toNatClampNeg 0) (D.1 85 0)).1 85 1)) q1 (Int32.toNatClampNeg 2) ((pu_wi (pu_wi D q1 (Int32.toNatClampNeg 0) (D.1 85 0)) q1 (Int32.toNatClampNeg 1) ((pu_wi D q1 (Int32.toNatClampNeg 0) (D.1 85 0)).1 85 1)).1 85 2)) q1 (Int32.toNatClampNeg 3) ((pu_wi (pu_wi (pu_wi D q1 (Int32.toNatClampNeg 0) (D.1 85 0)) q1 (Int32.toNatClampNeg 1) ((pu_wi D q1 (Int32.toNatClampNeg 0) (D.1 85 0)).1 85 1)) q1 (Int32.toNatClampNeg 2) ((pu_wi (pu_wi D q1 (Int32.toNatClampNeg 0) (D.1 85 0)) q1 (Int32.toNatClampNeg 1) ((pu_wi D q1 (Int32.toNatClampNeg 0) (D.1 85 0)).1 85 1)).1 85 2)).1 85 3)) q1 (Int32.toNatClampNeg 4) ((pu_wi (pu_wi (pu_wi (pu_wi D q1 (Int32.toNatClampNeg 0) (D.1 85 0)) q1 (Int32.toNatClampNeg 1) ((pu_wi D q1 (Int32.toNatClampNeg 0) (D.1 85 0)).1 85 1)) q1 (Int32.toNatClampNeg 2) ((pu_wi (pu_wi D q1 (Int32.toNatClampNeg 0) (D.1 85 0)) q1 (Int32.toNatClampNeg 1) ((pu_wi D q1 (Int32.toNatClampNeg 0) (D.1 85 0)).1 85 1)).1 85 2)) q1 (Int32.toNatClampNeg 3) ((pu_wi (pu_wi (pu_wi D q1 (Int32.toNatClampNeg 0) (D.1 85 0)) q1 (Int32.toNatClampNeg 1) ((pu_wi D q1 (Int32.toNatClampNeg 0) (D.1 85 0)).1 85 1)) q1 (Int32.toNatClampNeg 2) ((pu_wi (pu_wi D q1 (Int32.toNatClampNeg 0) (D.1 85 0)) q1 (Int32.toNatClampNeg 1) ((pu_wi D q1 (Int32.toNatClampNeg 0) (D.1 85 0)).1 85 1)).1 85 2)).1 85 3)).1 85 4)) q1 (Int32.toNatClampNeg 5) ((pu_wi (pu_wi (pu_wi (pu_wi (pu_wi D q1 (Int32.toNatClampNeg 0) (D.1 85 0)) q1 (Int32.toNatClampNeg 1) ((pu_wi D q1 (Int32.toNatClampNeg 0) (D.1 85 0)).1 85 1)) q1 (Int32.toNatClampNeg 2) ((pu_wi (pu_wi D q1 (Int32.toNatClampNeg 0) (D.1 85 0)) q1 (Int32.toNatClampNeg 1) ((pu_wi D q1 (Int32.toNatClampNeg 0) (D.1 85 0)).1 85 1)).1 85 2)) q1 (Int32.toNatClampNeg 3) ((pu_wi (pu_wi (pu_wi D q1 (Int32.toNatClampNeg 0) (D.1 85 0)) q1 (Int32.toNatClampNeg 1) ((pu_wi D q1 (Int32.toNatClampNeg 0) (D.1 85 0)).1 85 1)) q1 (Int32.toNatClampNeg 2) ((pu_wi (pu_wi D q1 (Int32.toNatClampNeg 0) (D.1 85 0)) q1 (Int32.toNatClampNeg 1) ((pu_wi D q1 (Int32.toNatClampNeg 0) (D.1 85 0)).1 85 1)).1 85 2)).1 85 3)) q1 (Int32.toNatClampNeg 4) ((pu_wi (pu_wi (pu_wi (pu_wi D q1 (Int32.toNatClampNeg 0) (D.1 85 0)) q1 (Int32.toNatClampNeg 1) ((pu_wi D q1 (Int32.toNatClampNeg 0) (D.1 85 0)).1 85 1)) q1 (Int32.toNatClampNeg 2) ((pu_wi (pu_wi D q1 (Int32.toNatClampNeg 0) (D.1 85 0)) q1 (Int32.toNatClampNeg 1) ((pu_wi D q1 (Int32.toNatClampNeg 0) (D.1 85 0)).1 85 1)).1 85 2)) q1 (Int32.toNatClampNeg 3) ((pu_wi (pu_wi (pu_wi D q1 (Int32.toNatClampNeg 0) (D.1 85 0)) q1 (Int32.toNatClampNeg 1) ((pu_wi D q1 (Int32.toNatClampNeg 0) (D.1 85 0)).1 85 1)) q1 (Int32.toNatClampNeg 2) ((pu_wi (pu_wi D q1 (Int32.toNatClampNeg 0) (D.1 85 0)) q1 (Int32.toNatClampNeg 1) ((pu_wi D q1 (Int32.toNatClampNeg 0) (D.1 85 0)).1 85 1)).1 85 2)).1 85 3)).1 85 4)).1 85 5)) q1 (Int32.toNatClampNeg 6) ((pu_wi (pu_wi (pu_wi (pu_wi (pu_wi (pu_wi D q1 (Int32.toNatClampNeg 0) (D.1 85 0)) q1 (Int32.toNatClampNeg 1) ((pu_wi D q1 (Int32.toNatClampNeg 0) (D.1 85 0)).1 85 1)) q1 (Int32.toNatClampNeg 2) ((pu_wi (pu_wi D q1 (Int32.toNatClampNeg 0) (D.1 85 0)) q1 (Int32.toNatClampNeg 1) ((pu_wi D q1 (Int32.toNatClampNeg 0) (D.1 85 0)).1 85 1)).1 85 2)) q1 (Int32.toNatClampNeg 3) ((pu_wi (pu_wi (pu_wi D q1 (Int32.toNatClampNeg 0) (D.1 85 0)) q1 (Int32.toNatClampNeg 1) ((pu_wi D q1 (Int32.toNatClampNeg 0) (D.1 85 0)).1 85 1)) q1 (Int32.toNatClampNeg 2) ((pu_wi (pu_wi D q1 (Int32.toNatClampNeg 0) (D.1 85 0)) q1 (Int32.toNatClampNeg 1) ((pu_wi D q1 (Int32.toNatClampNeg 0) (D.1 85 0)).1 85 1)).1 85 2)).1 85 3)) q1 (Int32.toNatClampNeg 4) ((pu_wi (pu_wi (pu_wi (pu_wi D q1 (Int32.toNatClampNeg 0) (D.1 85 0)) q1 (Int32.toNatClampNeg 1) ((pu_wi D q1 (Int32.toNatClampNeg 0) (D.1 85 0)).1 85 1)) q1 (Int32.toNatClampNeg 2) ((pu_wi (pu_wi D q1 (Int32.toNatClampNeg 0) (D.1 85 0)) q1 (Int32.toNatClampNeg 1) ((pu_wi D q1 (Int32.toNatClampNeg 0) (D.1 85 0)).1 85 1)).1 85 2)) q1 (Int32.toNatClampNeg 3) ((pu_wi (pu_wi (pu_wi D q1 (Int32.toNatClampNeg 0) (D.1 85 0)) q1 (Int32.toNatClampNeg 1) ((pu_wi D q1 (Int32.toNatClampNeg 0) (D.1 85 0)).1 85 1)) q1 (Int32.toNatClampNeg 2) ((pu_wi (pu_wi D q1 (Int32.toNatClampNeg 0) (D.1 85 0)) q1 (Int32.toNatClampNeg 1) ((pu_wi D q1 (Int32.toNatClampNeg 0) (D.1 85 0)).1 85 1)).1 85 2)).1 85 3)).1 85 4)) q1 (Int32.toNatClampNeg 5) ((pu_wi (pu_wi (pu_wi (pu_wi (pu_wi D q1 (Int32.toNatClampNeg 0) (D.1 85 0)) q1 (Int32.toNatClampNeg 1) ((pu_wi D q1 (Int32.toNatClampNeg 0) (D.1 85 0)).1 85 1)) q1 (Int32.toNatClampNeg 2) ((pu_wi (pu_wi D q1 (Int32.toNatClampNeg 0) (D.1 85 0)) q1 (Int32.toNatClampNeg 1) ((pu_wi D q1 (Int32.toNatClampNeg 0) (D.1 85 0)).1 85 1)).1 85 2)) q1 (Int32.toNatClampNeg 3) ((pu_wi (pu_wi (pu_wi D q1 (Int32.toNatClampNeg 0) (D.1 85 0)) q1 (Int32.toNatClampNeg 1) ((pu_wi D q1 (Int32.toNatClampNeg 0) (D.1 85 0)).1 85 1)) q1 (Int32.toNatClampNeg 2) ((pu_wi (pu_wi D q1 (Int32.toNatClampNeg 0) (D.1 85 0)) q1 (Int32.toNatClampNeg 1) ((pu_wi D q1 (Int32.toNatClampNeg 0) (D.1 85 0)).1 85 1)).1 85 2)).1 85 3)) q1 (Int32.toNatClampNeg 4) ((pu_wi (pu_wi (pu_wi (pu_wi D q1 (Int32.toNatClampNeg 0) (D.1 85 0)) q1 (Int32.toNatClampNeg 1) ((pu_wi D q1 (Int32.toNatClampNeg 0) (D.1 85 0)).1 85 1)) q1 (Int32.toNatClampNeg 2) ((pu_wi (pu_wi D q1 (Int32.toNatClampNeg 0) (D.1 85 0)) q1 (Int32.toNatClampNeg 1) ((pu_wi D q1 (Int32.toNatClampNeg 0) (D.1 85 0)).1 85 1)).1 85 2)) q1 (Int32.toNatClampNeg 3) ((pu_wi (pu_wi (pu_wi D q1 (Int32.toNatClampNeg 0) (D.1 85 0)) q1 (Int32.toNatClampNeg 1) ((pu_wi D q1 (Int32.toNatClampNeg 0) (D.1 85 0)).1 85 1)) q1 (Int32.toNatClampNeg 2) ((pu_wi (pu_wi D q1 (Int32.toNatClampNeg 0) (D.1 85 0)) q1 (Int32.toNatClampNeg 1) ((pu_wi D q1 (Int32.toNatClampNeg 0) (D.1 85 0)).1 85 1)).1 85 2)).1 85 3)).1 85 4)).1 85 5)).1 85 6)).1 85 7)).1 85 8)).1 85 9)) q1 (Int32.toNatClampNeg 10) ((pu_wi (pu_wi (pu_wi (pu_wi (pu_wi (pu_wi (pu_wi (pu_wi (pu_wi (pu_wi D q1 (Int32.toNatClampNeg 0) (D.1 85 0)) q1 (Int32.toNatClampNeg 1) ((pu_wi D q1 (Int32.toNatClampNeg 0) (D.1 85 0)).1 85 1)) q1 (Int32.toNatClampNeg 2) ((pu_wi (pu_wi D q1 (Int32.toNatClampNeg 0) (D.1 85 0)) q1 (Int32.toNatClampNeg 1) ((pu_wi D q1 (Int32.toNatClampNeg 0) (D.1 85 0)).1 85 1)).1 85 2)) q1 (Int32.toNatClampNeg 3) ((pu_wi (pu_wi (pu_wi D q1 (Int32.toNatClampNeg 0) (D.1 85 0)) q1 (Int32.toNatClampNeg 1) ((pu_wi D q1 (Int32.toNatClampNeg 0) (D.1 85 0)).1 85 1)) q1 (Int32.toNatClampNeg 2) ((pu_wi (pu_wi D q1 (Int32.toNatClampNeg 0) (D.1 85 0)) q1 (Int32.toNatClampNeg 1) ((pu_wi D q1 (Int32.toNatClampNeg 0) (D.1 85 0)).1 85 1)).1 85 2)).1 85 3)) q1 (Int32.toNatClampNeg 4) ((pu_wi (pu_wi (pu_wi (pu_wi D q1 (Int32.toNatClampNeg 0) (D.1 85 0)) q1 (Int32.toNatClampNeg 1) ((pu_wi D q1 (Int32.toNatClampNeg 0) (D.1 85 0)).1 85 1)) q1 (Int32.toNatClampNeg 2) ((pu_wi (pu_wi D q1 (Int32.toNatClampNeg 0) (D.1 85 0)) q1 (Int32.toNatClampNeg 1) ((pu_wi D q1 (Int32.toNatClampNeg 0) (D.1 85 0)).1 85 1)).1 85 2)) q1 (Int32.toNatClampNeg 3) ((pu_wi (pu_wi (pu_wi D q1 (Int32.toNatClampNeg 0) (D.1 85 0)) q1 (Int32.toNatClampNeg 1) ((pu_wi D q1 (Int32.toNatClampNeg 0) (D.1 85 0)).1 85 1)) q1 (Int32.toNatClampNeg 2) ((pu_wi (pu_wi D q1 (Int32.toNatClampNeg 0) (D.1 85 0)) q1 (Int32.toNatClampNeg 1) ((pu_wi D q1 (Int32.toNatClampNeg 0) (D.1 85 0)).1 85 1)).1 85 2)).1 85 3)).1 85 4)) q1 (Int32.toNatClampNeg 5) ((pu_wi (pu_wi (pu_wi (pu_wi (pu_wi D q1 (Int32.toNatClampNeg 0) (D.1 85 0)) q1 (Int32.toNatClampNeg 1) ((pu_wi D q1 (Int32.toNatClampNeg 0) (D.1 85 0)).1 85 1)) q1 (Int32.toNatClampNeg 2) ((pu_wi (pu_wi D q1 (Int32.toNatClampNeg 0) (D.1 85 0)) q1 (Int32.toNatClampNeg 1) ((pu_wi D q1 (Int32.toNatClampNeg 0) (D.1 85 0)).1 85 1)).1 85 2)) q1 (Int32.toNatClampNeg 3) ((pu_wi (pu_wi (pu_wi D q1 (Int32.toNatClampNeg 0) (D.1 85 0)) q1 (Int32.toNatClampNeg 1) ((pu_wi D q1 (Int32.toNatClampNeg 0) (D.1 85 0)).1 85 1)) q1 (Int32.toNatClampNeg 2) ((pu_wi (pu_wi D q1 (Int32.toNatClampNeg 0) (D.1 85 0)) q1 (Int32.toNatClampNeg 1) ((pu_wi D q1 (Int32.toNatClampNeg 0) (D.1 85 0)).1 85 1)).1 85 2)).1 85 3)) q1 (Int32.toNatClampNeg 4) ((pu_wi (pu_wi (pu_wi (pu_wi D q1 (Int32.toNatClampNeg 0) (D.1 85 0)) q1 (Int32.toNatClampNeg 1) ((pu_wi D q1 (Int32.toNatClampNeg 0) (D.1 85 0)).1 85 1)) q1 (Int32.toNatClampNeg 2) ((pu_wi (pu_wi D q1 (Int32.toNatClampNeg 0) (D.1 85 0)) q1 (Int32.toNatClampNeg 1) ((pu_wi D q1 (Int32.toNatClampNeg 0) (D.1 85 0)).1 85 1)).1 85 2)) q1 (Int32.toNatClampNeg 3) ((pu_wi (pu_wi (pu_wi D q1 (Int32.toNatClampNeg 0) (D.1 85 0)) q1 (Int32.toNatClampNeg 1) ((pu_wi D q1 (Int32.toNatClampNeg 0) (D.1 85 0)).1 85 1)) q1 (Int32.toNatClampNeg 2) ((pu_wi (pu_wi D q1 (Int32.toNatClampNeg 0) (D.1 85 0)) q1 (Int32.toNatClampNeg 1) ((pu_wi D q1 (Int32.toNatClampNeg 0) (D.1 85 0)).1 85 1)).1 85 2)).1 85 3)).1 85 4)).1 85 5)) q1 (Int32.toNatClampNeg 6) ((pu_wi (pu_wi (pu_wi (pu_wi (pu_wi (pu_wi D q1 (Int32.toNatClampNeg 0) (D.1 85 0)) q1 (Int32.toNatClampNeg 1) ((pu_wi D q1 (Int32.toNatClampNeg 0) (D.1 85 0)).1 85 1)) q1 (Int32.toNatClampNeg 2) ((pu_wi (pu_wi D q1 (Int32.toNatClampNeg 0) (D.1 85 0)) q1 (Int32.toNatClampNeg 1) ((pu_wi D q1 (Int32.toNatClampNeg 0) (D.1 85 0)).1 85 1)).1 85 2)) q1 (Int32.toNatClampNeg 3) ((pu_wi (pu_wi (pu_wi D q1 (Int32.toNatClampNeg 0) (D.1 85 0)) q1 (Int32.toNatClampNeg 1) ((pu_wi D q1 (Int32.toNatClampNeg 0) (D.1 85 0)).1 85 1)) q1 (Int32.toNatClampNeg 2) ((pu_wi (pu_wi D q1 (Int32.toNatClampNeg 0) (D.1 85 0)) q1 (Int32.toNatClampNeg 1) ((pu_wi D q1 (Int32.toNatClampNeg 0) (D.1 85 0)).1 85 1)).1 85 2)).1 85 3)) q1 (Int32.toNatClampNeg 4) ((pu_wi (pu_wi (pu_wi (pu_wi D q1 (Int32.toNatClampNeg 0) (D.1 85 0)) q1 (Int32.toNatClampNeg 1) ((pu_wi D q1 (Int32.toNatClampNeg 0) (D.1 85 0)).1 85 1)) q1 (Int32.toNatClampNeg 2) ((pu_wi (pu_wi D q1 (Int32.toNatClampNeg 0) (D.1 85 0)) q1 (Int32.toNatClampNeg 1) ((pu_wi D q1 (Int32.toNatClampNeg 0) (D.1 85 0)).1 85 1)).1 85 2)) q1 (Int32.toNatClampNeg 3) ((pu_wi (pu_wi (pu_wi D q1 (Int32.toNatClampNeg 0) (D.1 85 0)) q1 (Int32.toNatClampNeg 1) ((pu_wi D q1 (Int32.toNatClampNeg 0) (D.1 85 0)).1 85 1)) q1 (Int32.toNatClampNeg 2) ((pu_wi (pu_wi D q1 (Int32.toNatClampNeg 0) (D.1 85 0)) q1 (Int32.toNatClampNeg 1) ((pu_wi D q1 (Int32.toNatClampNeg 0) (D.1 85 0)).1 85 1)).1 85 2)).1 85 3)).1 85 4)) q1 (Int32.toNatClampNeg 5) ((pu_wi (pu_wi (pu_wi (pu_wi (pu_wi D q1 (Int32.toNatClampNeg 0) (D.1 85 0)) q1 (Int32.toNatClampNeg 1) ((pu_wi D q1 (Int32.toNatClampNeg 0) (D.1 85 0)).1 85 1)) q1 (Int32.toNatClampNeg 2) ((pu_wi (pu_wi D q1 (Int32.toNatClampNeg 0) (D.1 85 0)) q1 (Int32.toNatClampNeg 1) ((pu_wi D q1 (Int32.toNatClampNeg 0) (D.1 85 0)).1 85 1)).1 85 2)) q1 (Int32.toNatClampNeg 3) ((pu_wi (pu_wi (pu_wi D q1 (Int32.toNatClampNeg 0) (D.1 85 0)) q1 (Int32.toNatClampNeg 1) ((pu_wi D q1 (Int32.toNatClampNeg 0) (D.1 85 0)).1 85 1)) q1 (Int32.toNatClampNeg 2) ((pu_wi (pu_wi D q1 (Int32.toNatClampNeg 0) (D.1 85 0)) q1 (Int32.toNatClampNeg 1) ((pu_wi D q1 (Int32.toNatClampNeg 0) (D.1 85 0)).1 85 1)).1 85 2)).1 85 3)) q1 (Int32.toNatClampNeg 4) ((pu_wi (pu_wi (pu_wi (pu_wi D q1 (Int32.toNatClampNeg 0) (D.1 85 0)) q1 (Int32.toNatClampNeg 1) ((pu_wi D q1 (Int32.toNatClampNeg 0) (D.1 85 0)).1 85 1)) q1 (Int32.toNatClampNeg 2) ((pu_wi (pu_wi D q1 (Int32.toNatClampNeg 0) (D.1 85 0)) q1 (Int32.toNatClampNeg 1) ((pu_wi D q1 (Int32.toNatClampNeg 0) (D.1 85 0)).1 85 1)).1 85 2)) q1 (Int32.toNatClampNeg 3) ((pu_wi (pu_wi (pu_wi D q1 (Int32.toNatClampNeg 0) (D.1 85 0)) q1 (Int32.toNatClampNeg 1) ((pu_wi D q1 (Int32.toNatClampNeg 0) (D.1 85 0)).1 85 1)) q1 (Int32.toNatClampNeg 2) ((pu_wi (pu_wi D q1 (Int32.toNatClampNeg 0) (D.1 85 0)) q1 (Int32.toNatClampNeg 1) ((pu_wi D q1 (Int32.toNatClampNeg 0) (D.1 85 0)).1 85 1)).1 85 2)).1 85 3)).1 85 4)).1 85 5)).1 85 6)) q1 (Int32.toNatClampNeg 7) ((pu_wi (pu_wi (pu_wi (pu_wi (pu_wi (pu_wi (pu_wi D q1 (Int32.toNatClampNeg 0) (D.1 85 0)) q1 (Int32.toNatClampNeg 1) ((pu_wi D q1 (Int32.toNatClampNeg 0) (D.1 85 0)).1 85 1)) q1 (Int32.toNatClampNeg 2) ((pu_wi (pu_wi D q1 (Int32.toNatClampNeg 0) (D.1 85 0)) q1 (Int32.toNatClampNeg 1) ((pu_wi D q1 (Int32.toNatClampNeg 0) (D.1 85 0)).1 85 1)).1 85 2)) q1 (Int32.toNatClampNeg 3) ((pu_wi (pu_wi (pu_wi D q1 (Int32.toNatClampNeg 0) (D.1 85 0)) q1 (Int32.toNatClampNeg 1) ((pu_wi D q1 (Int32.toNatClampNeg 0) (D.1 85 0)).1 85 1)) q1 (Int32.toNatClampNeg 2) ((pu_wi (pu_wi D q1 (Int32.toNatClampNeg 0) (D.1 85 0)) q1 (Int32.toNatClampNeg 1) ((pu_wi D q1 (Int32.toNatClampNeg 0) (D.1 85 0)).1 85 1)).1 85 2)).1 85 3)) q1 (Int32.toNatClampNeg 4) ((pu_wi (pu_wi (pu_wi (pu_wi D q1 (Int32.toNatClampNeg 0) (D.1 85 0)) q1 (Int32.toNatClampNeg 1) ((pu_wi D q1 (Int32.toNatClampNeg 0) (D.1 85 0)).1 85 1)) q1 (Int32.toNatClampNeg 2) ((pu_wi (pu_wi D q1 (Int32.toNatClampNeg 0) (D.1 85 0)) q1 (Int32.toNatClampNeg 1) ((pu_wi D q1 (Int32.toNatClampNeg 0) (D.1 85 0)).1 85 1)).1 85 2)) q1 (Int32.toNatClampNeg 3) ((pu_wi (pu_wi (pu_wi D q1 (Int32.toNatClampNeg 0) (D.1 85 0)) q1 (Int32.toNatClampNeg 1) ((pu_wi D q1 (Int32.toNatClampNeg 0) (D.1 85 0)).1 85 1)) q1 (Int32.toNatClampNeg 2) ((pu_wi (pu_wi D q1 (Int32.toNatClampNeg 0) (D.1 85 0)) q1 (Int32.toNatClampNeg 1) ((pu_wi D q1 (Int32.toNatClampNeg 0) (D.1 85 0)).1 85 1)).1 85 2)).1 85 3)).1 85 4)) q1 (Int32.toNatClampNeg 5) ((pu_wi (pu_wi (pu_wi (pu_wi (pu_wi D q1 (Int32.toNatClampNeg 0) (D.1 85 0)) q1 (Int32.toNatClampNeg 1) ((pu_wi D q1 (Int32.toNatClampNeg 0) (D.1 85 0)).1 85 1)) q1 (Int32.toNatClampNeg 2) ((pu_wi (pu_wi D q1 (Int32.toNatClampNeg 0) (D.1 85 0)) q1 (Int32.toNatClampNeg 1) ((pu_wi D q1 (Int32.toNatClampNeg 0) (D.1 85 0)).1 85 1)).1 85 2)) q1 (Int32.toNatClampNeg 3) ((pu_wi (pu_wi (pu_wi D q1 (Int32.toNatClampNeg 0) (D.1 85 0)) q1 (Int32.toNatClampNeg 1) ((pu_wi D q1 (Int32.toNatClampNeg 0) (D.1 85 0)).1 85 1)) q1 (Int32.toNatClampNeg 2) ((pu_wi (pu_wi D q1 (Int32.toNatClampNeg 0) (D.1 85 0)) q1 (Int32.toNatClampNeg 1) ((pu_wi D q1 (Int32.toNatClampNeg 0) (D.1 85 0)).1 85 1)).1 85 2)).1 85 3)) q1 (Int32.toNatClampNeg 4) ((pu_wi (pu_wi (pu_wi (pu_wi D q1 (Int32.toNatClampNeg 0) (D.1 85 0)) q1 (Int32.toNatClampNeg 1) ((pu_wi D q1 (Int32.toNatClampNeg 0) (D.1 85 0)).1 85 1)) q1 (Int32.toNatClampNeg 2) ((pu_wi (pu_wi D q1 (Int32.toNatClampNeg 0) (D.1 85 0)) q1 (Int32.toNatClampNeg 1) ((pu_wi D q1 (Int32.toNatClampNeg 0) (D.1 85 0)).1 85 1)).1 85 2)) q1 (Int32.toNatClampNeg 3) ((pu_wi (pu_wi (pu_wi D q1 (Int32.toNatClampNeg 0) (D.1 85 0)) q1 (Int32.toNatClampNeg 1) ((pu_wi D q1 (Int32.toNatClampNeg 0) (D.1 85 0)).1 85 1)) q1 (Int32.toNatClampNeg 2) ((pu_wi (pu_wi D q1 (Int32.toNatClampNeg 0) (D.1 85 0)) q1 (Int32.toNatClampNeg 1) ((pu_wi D q1 (Int32.toNatClampNeg 0) (D.1 85 0)).1 85 1)).1 85 2)).1 85 3)).1 85 4)).1 85 5)) q1 (Int32.toNatClampNeg 6) ((pu_wi (pu_wi (pu_wi (pu_wi (pu_wi (pu_wi D q1 (Int32.toNatClampNeg 0) (D.1 85 0)) q1 (Int32.toNatClampNeg 1) ((pu_wi D q1 (Int32.toNatClampNeg 0) (D.1 85 0)).1 85 1)) q1 (Int32.toNatClampNeg 2) ((pu_wi (pu_wi D q1 (Int32.toNatClampNeg 0) (D.1 85 0)) q1 (Int32.toNatClampNeg 1) ((pu_wi D q1 (Int32.toNatClampNeg 0) (D.1 85 0)).1 85 1)).1 85 2)) q1 (Int32.toNatClampNeg 3) ((pu_wi (pu_wi (pu_wi D q1 (Int32.toNatClampNeg 0) (D.1 85 0)) q1 (Int32.toNatClampNeg 1) ((pu_wi D q1 (Int32.toNatClampNeg 0) (D.1 85 0)).1 85 1)) q1 (Int32.toNatClampNeg 2) ((pu_wi (pu_wi D q1 (Int32.toNatClampNeg 0) (D.1 85 0)) q1 (Int32.toNatClampNeg 1) ((pu_wi D q1 (Int32.toNatClampNeg 0) (D.1 85 0)).1 85 1)).1 85 2)).1 85 3)) q1 (Int32.toNatClampNeg 4) ((pu_wi (pu_wi (pu_wi (pu_wi D q1 (Int32.toNatClampNeg 0) (D.1 85 0)) q1 (Int32.toNatClampNeg 1) ((pu_wi D q1 (Int32.toNatClampNeg 0) (D.1 85 0)).1 85 1)) q1 (Int32.toNatClampNeg 2) ((pu_wi (pu_wi D q1 (Int32.toNatClampNeg 0) (D.1 85 0)) q1 (Int32.toNatClampNeg 1) ((pu_wi D q1 (Int32.toNatClampNeg 0) (D.1 85 0)).1 85 1)).1 85 2)) q1 (Int32.toNatClampNeg 3) ((pu_wi (pu_wi (pu_wi D q1 (Int32.toNatClampNeg 0) (D.1 85 0)) q1 (Int32.toNatClampNeg 1) ((pu_wi D q1 (Int32.toNatClampNeg 0) (D.1 85 0)).1 85 1)) q1 (Int32.toNatClampNeg 2) ((pu_wi (pu_wi D q1 (Int32.toNatClampNeg 0) (D.1 85 0)) q1 (Int32.toNatClampNeg 1) ((pu_wi D q1 (Int32.toNatClampNeg 0) (D.1 85 0)).1 85 1)).1 85 2)).1 85 3)).1 85 4)) q1 (Int32.toNatClampNeg 5) ((pu_wi (pu_wi (pu_wi (pu_wi (pu_wi D q1 (Int32.toNatClampNeg 0) (D.1 85 0)) q1 (Int32.toNatClampNeg 1) ((pu_wi D q1 (Int32.toNatClampNeg 0) (D.1 85 0)).1 85 1)) q1 (Int32.toNatClampNeg 2) ((pu_wi (pu_wi D q1 (Int32.toNatClampNeg 0) (D.1 85 0)) q1 (Int32.toNatClampNeg 1) ((pu_wi D q1 (Int32.toNatClampNeg 0) (D.1 85 0)).1 85 1)).1 85 2)) q1 (Int32.toNatClampNeg 3) ((pu_wi (pu_wi (pu_wi D q1 (Int32.toNatClampNeg 0) (D.1 85 0)) q1 (Int32.toNatClampNeg 1) ((pu_wi D q1 (Int32.toNatClampNeg 0) (D.1 85 0)).1 85 1)) q1 (Int32.toNatClampNeg 2) ((pu_wi (pu_wi D q1 (Int32.toNatClampNeg 0) (D.1 85 0)) q1 (Int32.toNatClampNeg 1) ((pu_wi D q1 (Int32.toNatClampNeg 0) (D.1 85 0)).1 85 1)).1 85 2)).1 85 3)) q1 (Int32.toNatClampNeg 4) ((pu_wi (pu_wi (pu_wi (pu_wi D q1 (Int32.toNatClampNeg 0) (D.1 85 0)) q1 (Int32.toNatClampNeg 1) ((pu_wi D q1 (Int32.toNatClampNeg 0) (D.1 85 0)).1 85 1)) q1 (Int32.toNatClampNeg 2) ((pu_wi (pu_wi D q1 (Int32.toNatClampNeg 0) (D.1 85 0)) q1 (Int32.toNatClampNeg 1) ((pu_wi D q1 (Int32.toNatClampNeg 0) (D.1 85 0)).1 85 1)).1 85 2)) q1 (Int32.toNatClampNeg 3) ((pu_wi (pu_wi (pu_wi D q1 (Int32.toNatClampNeg 0) (D.1 85 0)) q1 (Int32.toNatClampNeg 1) ((pu_wi D q1 (Int32.toNatClampNeg 0) (D.1 85 0)).1 85 1)) q1 (Int32.toNatClampNeg 2) ((pu_wi (pu_wi D q1 (Int32.toNatClampNeg 0) (D.1 85 0)) q1 (Int32.toNatClampNeg 1) ((pu_wi D q1 (Int32.toNatClampNeg 0) (D.1 85 0)).1 85 1)).1 85 2)).1 85 3)).1 85 4)).1 85 5)).1 85 6)).1 85 7)) q1 (Int32.toNatClampNeg 8) ((pu_wi (pu_wi (pu_wi (pu_wi (pu_wi (pu_wi (pu_wi (pu_wi D q1 (Int32.toNatClampNeg 0) (D.1 85 0)) q1 (Int32.toNatClampNeg 1) ((pu_wi D q1 (Int32.toNatClampNeg 0) (D.1 85 0)).1 85 1)) q1 (Int32.toNatClampNeg 2) ((pu_wi (pu_wi D q1 (Int32.toNatClampNeg 0) (D.1 85 0)) q1 (Int32.toNatClampNeg 1) ((pu_wi D q1 (Int32.toNatClampNeg 0) (D.1 85 0)).1 85 1)).1 85 2)) q1 (Int32.toNatClampNeg 3) ((pu_wi (pu_wi (pu_wi D q1 (Int32.toNatClampNeg 0) (D.1 85 0)) q1 (Int32.toNatClampNeg 1) ((pu_wi D q1 (Int32.toNatClampNeg 0) (D.1 85 0)).1 85 1)) q1 (Int32.toNatClampNeg 2) ((pu_wi (pu_wi D q1 (Int32.toNatClampNeg 0) (D.1 85 0)) q1 (Int32.toNatClampNeg 1) ((pu_wi D q1 (Int32.toNatClampNeg 0) (D.1 85 0)).1 85 1)).1 85 2)).1 85 3)) q1 (Int32.toNatClampNeg 4) ((pu_wi (pu_wi (pu_wi (pu_wi D q1 (Int32.toNatClampNeg 0) (D.1 85 0)) q1 (Int32.toNatClampNeg 1) ((pu_wi D q1 (Int32.toNatClampNeg 0) (D.1 85 0)).1 85 1)) q1 (Int32.toNatClampNeg 2) ((pu_wi (pu_wi D q1 (Int32.toNatClampNeg 0) (D.1 85 0)) q1 (Int32.toNatClampNeg 1) ((pu_wi D q1 (Int32.toNatClampNeg 0) (D.1 85 0)).1 85 1)).1 85 2)) q1 (Int32.toNatClampNeg 3) ((pu_wi (pu_wi (pu_wi D q1 (Int32.toNatClampNeg 0) (D.1 85 0)) q1 (Int32.toNatClampNeg 1) ((pu_wi D q1 (Int32.toNatClampNeg 0) (D.1 85 0)).1 85 1)) q1 (Int32.toNatClampNeg 2) ((pu_wi (pu_wi D q1 (Int32.toNatClampNeg 0) (D.1 85 0)) q1 (Int32.toNatClampNeg 1) ((pu_wi D q1 (Int32.toNatClampNeg 0) (D.1 85 0)).1 85 1)).1 85 2)).1 85 3)).1 85 4)) q1 (Int32.toNatClampNeg 5) ((pu_wi (pu_wi (pu_wi (pu_wi (pu_wi D q1 (Int32.toNatClampNeg 0) (D.1 85 0)) q1 (Int32.toNatClampNeg 1) ((pu_wi D q1 (Int32.toNatClampNeg 0) (D.1 85 0)).1 85 1)) q1 (Int32.toNatClampNeg 2) ((pu_wi (pu_wi D q1 (Int32.toNatClampNeg 0) (D.1 85 0)) q1 (Int32.toNatClampNeg 1) ((pu_wi D q1 (Int32.toNatClampNeg 0) (D.1 85 0)).1 85 1)).1 85 2)) q1 (Int32.toNatClampNeg 3) ((pu_wi (pu_wi (pu_wi D q1 (Int32.toNatClampNeg 0) (D.1 85 0)) q1 (Int32.toNatClampNeg 1) ((pu_wi D q1 (Int32.toNatClampNeg 0) (D.1 85 0)).1 85 1)) q1 (Int32.toNatClampNeg 2) ((pu_wi (pu_wi D q1 (Int32.toNatClampNeg 0) (D.1 85 0)) q1 (Int32.toNatClampNeg 1) ((pu_wi D q1 (Int32.toNatClampNeg 0) (D.1 85 0)).1 85 1)).1 85 2)).1 85 3)) q1 (Int32.toNatClampNeg 4) ((pu_wi (pu_wi (pu_wi (pu_wi D q1 (Int32.toNatClampNeg 0) (D.1 85 0)) q1 (Int32.toNatClampNeg 1) ((pu_wi D q1 (Int32.toNatClampNeg 0) (D.1 85 0)).1 85 1)) q1 (Int32.toNatClampNeg 2) ((pu_wi (pu_wi D q1 (Int32.toNatClampNeg 0) (D.1 85 0)) q1 (Int32.toNatClampNeg 1) ((pu_wi D q1 (Int32.toNatClampNeg 0) (D.1 85 0)).1 85 1)).1 85 2)) q1 (Int32.toNatClampNeg 3) ((pu_wi (pu_wi (pu_wi D q1 (Int32.toNatClampNeg 0) (D.1 85 0)) q1 (Int32.toNatClampNeg 1) ((pu_wi D q1 (Int32.toNatClampNeg 0) (D.1 85 0)).1 85 1)) q1 (Int32.toNatClampNeg 2) ((pu_wi (pu_wi D q1 (Int32.toNatClampNeg 0) (D.1 85 0)) q1 (Int32.toNatClampNeg 1) ((pu_wi D q1 (Int32.toNatClampNeg 0) (D.1 85 0)).1 85 1)).1 85 2)).1 85 3)).1 85 4)).1 85 5)) q1 (Int32.toNatClampNeg 6) ((pu_wi (pu_wi (pu_wi (pu_wi (pu_wi (pu_wi D q1 (Int32.toNatClampNeg 0) (D.1 85 0)) q1 (Int32.toNatClampNeg 1) ((pu_wi D q1 (Int32.toNatClampNeg 0) (D.1 85 0)).1 85 1)) q1 (Int32.toNatClampNeg 2) ((pu_wi (pu_wi D q1 (Int32.toNatClampNeg 0) (D.1 85 0)) q1 (Int32.toNatClampNeg 1) ((pu_wi D q1 (Int32.toNatClampNeg 0) (D.1 85 0)).1 85 1)).1 85 2)) q1 (Int32.toNatClampNeg 3) ((pu_wi (pu_wi (pu_wi D q1 (Int32.toNatClampNeg 0) (D.1 85 0)) q1 (Int32.toNatClampNeg 1) ((pu_wi D q1 (Int32.toNatClampNeg 0) (D.1 85 0)).1 85 1)) q1 (Int32.toNatClampNeg 2) ((pu_wi (pu_wi D q1 (Int32.toNatClampNeg 0) (D.1 85 0)) q1 (Int32.toNatClampNeg 1) ((pu_wi D q1 (Int32.toNatClampNeg 0) (D.1 85 0)).1 85 1)).1 85 2)).1 85 3)) q1 (Int32.toNatClampNeg 4) ((pu_wi (pu_wi (pu_wi (pu_wi D q1 (Int32.toNatClampNeg 0) (D.1 85 0)) q1 (Int32.toNatClampNeg 1) ((pu_wi D q1 (Int32.toNatClampNeg 0) (D.1 85 0)).1 85 1)) q1 (Int32.toNatClampNeg 2) ((pu_wi (pu_wi D q1 (Int32.toNatClampNeg 0) (D.1 85 0)) q1 (Int32.toNatClampNeg 1) ((pu_wi D q1 (Int32.toNatClampNeg 0) (D.1 85 0)).1 85 1)).1 85 2)) q1 (Int32.toNatClampNeg 3) ((pu_wi (pu_wi (pu_wi D q1 (Int32.toNatClampNeg 0) (D.1 85 0)) q1 (Int32.toNatClampNeg 1) ((pu_wi D q1 (Int32.toNatClampNeg 0) (D.1 85 0)).1 85 1)) q1 (Int32.toNatClampNeg 2) ((pu_wi (pu_wi D q1 (Int32.toNatClampNeg 0) (D.1 85 0)) q1 (Int32.toNatClampNeg 1) ((pu_wi D q1 (Int32.toNatClampNeg 0) (D.1 85 0)).1 85 1)).1 85 2)).1 85 3)).1 85 4)) q1 (Int32.toNatClampNeg 5) ((pu_wi (pu_wi (pu_wi (pu_wi (pu_wi D q1 (Int32.toNatClampNeg 0) (D.1 85 0)) q1 (Int32.toNatClampNeg 1) ((pu_wi D q1 (Int32.toNatClampNeg 0) (D.1 85 0)).1 85 1)) q1 (Int32.toNatClampNeg 2) ((pu_wi (pu_wi D q1 (Int32.toNatClampNeg 0) (D.1 85 0)) q1 (Int32.toNatClampNeg 1) ((pu_wi D q1 (Int32.toNatClampNeg 0) (D.1 85 0)).1 85 1)).1 85 2)) q1 (Int32.toNatClampNeg 3) ((pu_wi (pu_wi (pu_wi D q1 (Int32.toNatClampNeg 0) (D.1 85 0)) q1 (Int32.toNatClampNeg 1) ((pu_wi D q1 (Int32.toNatClampNeg 0) (D.1 85 0)).1 85 1)) q1 (Int32.toNatClampNeg 2) ((pu_wi (pu_wi D q1 (Int32.toNatClampNeg 0) (D.1 85 0)) q1 (Int32.toNatClampNeg 1) ((pu_wi D q1 (Int32.toNatClampNeg 0) (D.1 85 0)).1 85 1)).1 85 2)).1 85 3)) q1 (Int32.toNatClampNeg 4) ((pu_wi (pu_wi (pu_wi (pu_wi D q1 (Int32.toNatClampNeg 0) (D.1 85 0)) q1 (Int32.toNatClampNeg 1) ((pu_wi D q1 (Int32.toNatClampNeg 0) (D.1 85 0)).1 85 1)) q1 (Int32.toNatClampNeg 2) ((pu_wi (pu_wi D q1 (Int32.toNatClampNeg 0) (D.1 85 0)) q1 (Int32.toNatClampNeg 1) ((pu_wi D q1 (Int32.toNatClampNeg 0) (D.1 85 0)).1 85 1)).1 85 2)) q1 (Int32.toNatClampNeg 3) ((pu_wi (pu_wi (pu_wi D q1 (Int32.toNatClampNeg 0) (D.1 85 0)) q1 (Int32.toNatClampNeg 1) ((pu_wi D q1 (Int32.toNatClampNeg 0) (D.1 85 0)).1 85 1)) q1 (Int32.toNatClampNeg 2) ((pu_wi (pu_wi D q1 (Int32.toNatClampNeg 0) (D.1 85 0)) q1 (Int32.toNatClampNeg 1) ((pu_wi D q1 (Int32.toNatClampNeg 0) (D.1 85 0)).1 85 1)).1 85 2)).1 85 3)).1 85 4)).1 85 5)).1 85 6)) q1 (Int32.toNatClampNeg 7) ((pu_wi (pu_wi (pu_wi (pu_wi (pu_wi (pu_wi (pu_wi D q1 (Int32.toNatClampNeg 0) (D.1 85 0)) q1 (Int32.toNatClampNeg 1) ((pu_wi D q1 (Int32.toNatClampNeg 0) (D.1 85 0)).1 85 1)) q1 (Int32.toNatClampNeg 2) ((pu_wi (pu_wi D q1 (Int32.toNatClampNeg 0) (D.1 85 0)) q1 (Int32.toNatClampNeg 1) ((pu_wi D q1 (Int32.toNatClampNeg 0) (D.1 85 0)).1 85 1)).1 85 2)) q1 (Int32.toNatClampNeg 3) ((pu_wi (pu_wi (pu_wi D q1 (Int32.toNatClampNeg 0) (D.1 85 0)) q1 (Int32.toNatClampNeg 1) ((pu_wi D q1 (Int32.toNatClampNeg 0) (D.1 85 0)).1 85 1)) q1 (Int32.toNatClampNeg 2) ((pu_wi (pu_wi D q1 (Int32.toNatClampNeg 0) (D.1 85 0)) q1 (Int32.toNatClampNeg 1) ((pu_wi D q1 (Int32.toNatClampNeg 0) (D.1 85 0)).1 85 1)).1 85 2)).1 85 3)) q1 (Int32.toNatClampNeg 4) ((pu_wi (pu_wi (pu_wi (pu_wi D q1 (Int32.toNatClampNeg 0) (D.1 85 0)) q1 (Int32.toNatClampNeg 1) ((pu_wi D q1 (Int32.toNatClampNeg 0) (D.1 85 0)).1 85 1)) q1 (Int32.toNatClampNeg 2) ((pu_wi (pu_wi D q1 (Int32.toNatClampNeg 0) (D.1 85 0)) q1 (Int32.toNatClampNeg 1) ((pu_wi D q1 (Int32.toNatClampNeg 0) (D.1 85 0)).1 85 1)).1 85 2)) q1 (Int32.toNatClampNeg 3) ((pu_wi (pu_wi (pu_wi D q1 (Int32.toNatClampNeg 0) (D.1 85 0)) q1 (Int32.toNatClampNeg 1) ((pu_wi D q1 (Int32.toNatClampNeg 0) (D.1 85 0)).1 85 1)) q1 (Int32.toNatClampNeg 2) ((pu_wi (pu_wi D q1 (Int32.toNatClampNeg 0) (D.1 85 0)) q1 (Int32.toNatClampNeg 1) ((pu_wi D q1 (Int32.toNatClampNeg 0) (D.1 85 0)).1 85 1)).1 85 2)).1 85 3)).1 85 4)) q1 (Int32.toNatClampNeg 5) ((pu_wi (pu_wi (pu_wi (pu_wi (pu_wi D q1 (Int32.toNatClampNeg 0) (D.1 85 0)) q1 (Int32.toNatClampNeg 1) ((pu_wi D q1 (Int32.toNatClampNeg 0) (D.1 85 0)).1 85 1)) q1 (Int32.toNatClampNeg 2) ((pu_wi (pu_wi D q1 (Int32.toNatClampNeg 0) (D.1 85 0)) q1 (Int32.toNatClampNeg 1) ((pu_wi D q1 (Int32.toNatClampNeg 0) (D.1 85 0)).1 85 1)).1 85 2)) q1 (Int32.toNatClampNeg 3) ((pu_wi (pu_wi (pu_wi D q1 (Int32.toNatClampNeg 0) (D.1 85 0)) q1 (Int32.toNatClampNeg 1) ((pu_wi D q1 (Int32.toNatClampNeg 0) (D.1 85 0)).1 85 1)) q1 (Int32.toNatClampNeg 2) ((pu_wi (pu_wi D q1 (Int32.toNatClampNeg 0) (D.1 85 0)) q1 (Int32.toNatClampNeg 1) ((pu_wi D q1 (Int32.toNatClampNeg 0) (D.1 85 0)).1 85 1)).1 85 2)).1 85 3)) q1 (Int32.toNatClampNeg 4) ((pu_wi (pu_wi (pu_wi (pu_wi D q1 (Int32.toNatClampNeg 0) (D.1 85 0)) q1 (Int32.toNatClampNeg 1) ((pu_wi D q1 (Int32.toNatClampNeg 0) (D.1 85 0)).1 85 1)) q1 (Int32.toNatClampNeg 2) ((pu_wi (pu_wi D q1 (Int32.toNatClampNeg 0) (D.1 85 0)) q1 (Int32.toNatClampNeg 1) ((pu_wi D q1 (Int32.toNatClampNeg 0) (D.1 85 0)).1 85 1)).1 85 2)) q1 (Int32.toNatClampNeg 3) ((pu_wi (pu_wi (pu_wi D q1 (Int32.toNatClampNeg 0) (D.1 85 0)) q1 (Int32.toNatClampNeg 1) ((pu_wi D q1 (Int32.toNatClampNeg 0) (D.1 85 0)).1 85 1)) q1 (Int32.toNatClampNeg 2) ((pu_wi (pu_wi D q1 (Int32.toNatClampNeg 0) (D.1 85 0)) q1 (Int32.toNatClampNeg 1) ((pu_wi D q1 (Int32.toNatClampNeg 0) (D.1 85 0)).1 85 1)).1 85 2)).1 85 3)).1 85 4)).1 85 5)) q1 (Int32.toNatClampNeg 6) ((pu_wi (pu_wi (pu_wi (pu_wi (pu_wi (pu_wi D q1 (Int32.toNatClampNeg 0) (D.1 85 0)) q1 (Int32.toNatClampNeg 1) ((pu_wi D q1 (Int32.toNatClampNeg 0) (D.1 85 0)).1 85 1)) q1 (Int32.toNatClampNeg 2) ((pu_wi (pu_wi D q1 (Int32.toNatClampNeg 0) (D.1 85 0)) q1 (Int32.toNatClampNeg 1) ((pu_wi D q1 (Int32.toNatClampNeg 0) (D.1 85 0)).1 85 1)).1 85 2)) q1 (Int32.toNatClampNeg 3) ((pu_wi (pu_wi (pu_wi D q1 (Int32.toNatClampNeg 0) (D.1 85 0)) q1 (Int32.toNatClampNeg 1) ((pu_wi D q1 (Int32.toNatClampNeg 0) (D.1 85 0)).1 85 1)) q1 (Int32.toNatClampNeg 2) ((pu_wi (pu_wi D q1 (Int32.toNatClampNeg 0) (D.1 85 0)) q1 (Int32.toNatClampNeg 1) ((pu_wi D q1 (Int32.toNatClampNeg 0) (D.1 85 0)).1 85 1)).1 85 2)).1 85 3)) q1 (Int32.toNatClampNeg 4) ((pu_wi (pu_wi (pu_wi (pu_wi D q1 (Int32.toNatClampNeg 0) (D.1 85 0)) q1 (Int32.toNatClampNeg 1) ((pu_wi D q1 (Int32.toNatClampNeg 0) (D.1 85 0)).1 85 1)) q1 (Int32.toNatClampNeg 2) ((pu_wi (pu_wi D q1 (Int32.toNatClampNeg 0) (D.1 85 0)) q1 (Int32.toNatClampNeg 1) ((pu_wi D q1 (Int32.toNatClampNeg 0) (D.1 85 0)).1 85 1)).1 85 2)) q1 (Int32.toNatClampNeg 3) ((pu_wi (pu_wi (pu_wi D q1 (Int32.toNatClampNeg 0) (D.1 85 0)) q1 (Int32.toNatClampNeg 1) ((pu_wi D q1 (Int32.toNatClampNeg 0) (D.1 85 0)).1 85 1)) q1 (Int32.toNatClampNeg 2) ((pu_wi (pu_wi D q1 (Int32.toNatClampNeg 0) (D.1 85 0)) q1 (Int32.toNatClampNeg 1) ((pu_wi D q1 (Int32.toNatClampNeg 0) (D.1 85 0)).1 85 1)).1 85 2)).1 85 3)).1 85 4)) q1 (Int32.toNatClampNeg 5) ((pu_wi (pu_wi (pu_wi (pu_wi (pu_wi D q1 (Int32.toNatClampNeg 0) (D.1 85 0)) q1 (Int32.toNatClampNeg 1) ((pu_wi D q1 (Int32.toNatClampNeg 0) (D.1 85 0)).1 85 1)) q1 (Int32.toNatClampNeg 2) ((pu_wi (pu_wi D q1 (Int32.toNatClampNeg 0) (D.1 85 0)) q1 (Int32.toNatClampNeg 1) ((pu_wi D q1 (Int32.toNatClampNeg 0) (D.1 85 0)).1 85 1)).1 85 2)) q1 (Int32.toNatClampNeg 3) ((pu_wi (pu_wi (pu_wi D q1 (Int32.toNatClampNeg 0) (D.1 85 0)) q1 (Int32.toNatClampNeg 1) ((pu_wi D q1 (Int32.toNatClampNeg 0) (D.1 85 0)).1 85 1)) q1 (Int32.toNatClampNeg 2) ((pu_wi (pu_wi D q1 (Int32.toNatClampNeg 0) (D.1 85 0)) q1 (Int32.toNatClampNeg 1) ((pu_wi D q1 (Int32.toNatClampNeg 0) (D.1 85 0)).1 85 1)).1 85 2)).1 85 3)) q1 (Int32.toNatClampNeg 4) ((pu_wi (pu_wi (pu_wi (pu_wi D q1 (Int32.toNatClampNeg 0) (D.1 85 0)) q1 (Int32.toNatClampNeg 1) ((pu_wi D q1 (Int32.toNatClampNeg 0) (D.1 85 0)).1 85 1)) q1 (Int32.toNatClampNeg 2) ((pu_wi (pu_wi D q1 (Int32.toNatClampNeg 0) (D.1 85 0)) q1 (Int32.toNatClampNeg 1) ((pu_wi D q1 (Int32.toNatClampNeg 0) (D.1 85 0)).1 85 1)).1 85 2)) q1 (Int32.toNatClampNeg 3) ((pu_wi (pu_wi (pu_wi D q1 (Int32.toNatClampNeg 0) (D.1 85 0)) q1 (Int32.toNatClampNeg 1) ((pu_wi D q1 (Int32.toNatClampNeg 0) (D.1 85 0)).1 85 1)) q1 (Int32.toNatClampNeg 2) ((pu_wi (pu_wi D q1 (Int32.toNatClampNeg 0) (D.1 85 0)) q1 (Int32.toNatClampNeg 1) ((pu_wi D q1 (Int32.toNatClampNeg 0) (D.1 85 0)).1 85 1)).1 85 2)).1 85 3)).1 85 4)).1 85 5)).1 85 6)).1 85 7)).1 85 8)) q1 (Int32.toNatClampNeg 9) ((pu_wi (pu_wi (pu_wi (pu_wi (pu_wi (pu_wi (pu_wi (pu_wi (pu_wi D q1 (Int32.toNatClampNeg 0) (D.1 85 0)) q1 (Int32.toNatClampNeg 1) ((pu_wi D q1 (Int32.toNatClampNeg 0) (D.1 85 0)).1 85 1)) q1 (Int32.toNatClampNeg 2) ((pu_wi (pu_wi D q1 (Int32.toNatClampNeg 0) (D.1 85 0)) q1 (Int32.toNatClampNeg 1) ((pu_wi D q1 (Int32.toNatClampNeg 0) (D.1 85 0)).1 85 1)).1 85 2)) q1 (Int32.toNatClampNeg 3) ((pu_wi (pu_wi (pu_wi D q1 (Int32.toNatClampNeg 0) (D.1 85 0)) q1 (Int32.toNatClampNeg 1) ((pu_wi D q1 (Int32.toNatClampNeg 0) (D.1 85 0)).1 85 1)) q1 (Int32.toNatClampNeg 2) ((pu_wi (pu_wi D q1 (Int32.toNatClampNeg 0) (D.1 85 0)) q1 (Int32.toNatClampNeg 1) ((pu_wi D q1 (Int32.toNatClampNeg 0) (D.1 85 0)).1 85 1)).1 85 2)).1 85 3)) q1 (Int32.toNatClampNeg 4) ((pu_wi (pu_wi (pu_wi (pu_wi D q1 (Int32.toNatClampNeg 0) (D.1 85 0)) q1 (Int32.toNatClampNeg 1) ((pu_wi D q1 (Int32.toNatClampNeg 0) (D.1 85 0)).1 85 1)) q1 (Int32.toNatClampNeg 2) ((pu_wi (pu_wi D q1 (Int32.toNatClampNeg 0) (D.1 85 0)) q1 (Int32.toNatClampNeg 1) ((pu_wi D q1 (Int32.toNatClampNeg 0) (D.1 85 0)).1 85 1)).1 85 2)) q1 (Int32.toNatClampNeg 3) ((pu_wi (pu_wi (pu_wi D q1 (Int32.toNatClampNeg 0) (D.1 85 0)) q1 (Int32.toNatClampNeg 1) ((pu_wi D q1 (Int32.toNatClampNeg 0) (D.1 85 0)).1 85 1)) q1 (Int32.toNatClampNeg 2) ((pu_wi (pu_wi D q1 (Int32.toNatClampNeg 0) (D.1 85 0)) q1 (Int32.toNatClampNeg 1) ((pu_wi D q1 (Int32.toNatClampNeg 0) (D.1 85 0)).1 85 1)).1 85 2)).1 85 3)).1 85 4)) q1 (Int32.toNatClampNeg 5) ((pu_wi (pu_wi (pu_wi (pu_wi (pu_wi D q1 (Int32.toNatClampNeg 0) (D.1 85 0)) q1 (Int32.toNatClampNeg 1) ((pu_wi D q1 (Int32.toNatClampNeg 0) (D.1 85 0)).1 85 1)) q1 (Int32.toNatClampNeg 2) ((pu_wi (pu_wi D q1 (Int32.toNatClampNeg 0) (D.1 85 0)) q1 (Int32.toNatClampNeg 1) ((pu_wi D q1 (Int32.toNatClampNeg 0) (D.1 85 0)).1 85 1)).1 85 2)) q1 (Int32.toNatClampNeg 3) ((pu_wi (pu_wi (pu_wi D q1 (Int32.toNatClampNeg 0) (D.1 85 0)) q1 (Int32.toNatClampNeg 1) ((pu_wi D q1 (Int32.toNatClampNeg 0) (D.1 85 0)).1 85 1)) q1 (Int32.toNatClampNeg 2) ((pu_wi (pu_wi D q1 (Int32.toNatClampNeg 0) (D.1 85 0)) q1 (Int32.toNatClampNeg 1) ((pu_wi D q1 (Int32.toNatClampNeg 0) (D.1 85 0)).1 85 1)).1 85 2)).1 85 3)) q1 (Int32.toNatClampNeg 4) ((pu_wi (pu_wi (pu_wi (pu_wi D q1 (Int32.toNatClampNeg 0) (D.1 85 0)) q1 (Int32.toNatClampNeg 1) ((pu_wi D q1 (Int32.toNatClampNeg 0) (D.1 85 0)).1 85 1)) q1 (Int32.toNatClampNeg 2) ((pu_wi (pu_wi D q1 (Int32.toNatClampNeg 0) (D.1 85 0)) q1 (Int32.toNatClampNeg 1) ((pu_wi D q1 (Int32.toNatClampNeg 0) (D.1 85 0)).1 85 1)).1 85 2)) q1 (Int32.toNatClampNeg 3) ((pu_wi (pu_wi (pu_wi D q1 (Int32.toNatClampNeg 0) (D.1 85 0)) q1 (Int32.toNatClampNeg 1) ((pu_wi D q1 (Int32.toNatClampNeg 0) (D.1 85 0)).1 85 1)) q1 (Int32.toNatClampNeg 2) ((pu_wi (pu_wi D q1 (Int32.toNatClampNeg 0) (D.1 85 0)) q1 (Int32.toNatClampNeg 1) ((pu_wi D q1 (Int32.toNatClampNeg 0) (D.1 85 0)).1 85 1)).1 85 2)).1 85 3)).1 85 4)).1 85 5)) q1 (Int32.toNatClampNeg 6) ((pu_wi (pu_wi (pu_wi (pu_wi (pu_wi (pu_wi D q1 (Int32.toNatClampNeg 0) (D.1 85 0)) q1 (Int32.toNatClampNeg 1) ((pu_wi D q1 (Int32.toNatClampNeg 0) (D.1 85 0)).1 85 1)) q1 (Int32.toNatClampNeg 2) ((pu_wi (pu_wi D q1 (Int32.toNatClampNeg 0) (D.1 85 0)) q1 (Int32.toNatClampNeg 1) ((pu_wi D q1 (Int32.toNatClampNeg 0) (D.1 85 0)).1 85 1)).1 85 2)) q1 (Int32.toNatClampNeg 3) ((pu_wi (pu_wi (pu_wi D q1 (Int32.toNatClampNeg 0) (D.1 85 0)) q1 (Int32.toNatClampNeg 1) ((pu_wi D q1 (Int32.toNatClampNeg 0) (D.1 85 0)).1 85 1)) q1 (Int32.toNatClampNeg 2) ((pu_wi (pu_wi D q1 (Int32.toNatClampNeg 0) (D.1 85 0)) q1 (Int32.toNatClampNeg 1) ((pu_wi D q1 (Int32.toNatClampNeg 0) (D.1 85 0)).1 85 1)).1 85 2)).1 85 3)) q1 (Int32.toNatClampNeg 4) ((pu_wi (pu_wi (pu_wi (pu_wi D q1 (Int32.toNatClampNeg 0) (D.1 85 0)) q1 (Int32.toNatClampNeg 1) ((pu_wi D q1 (Int32.toNatClampNeg 0) (D.1 85 0)).1 85 1)) q1 (Int32.toNatClampNeg 2) ((pu_wi (pu_wi D q1 (Int32.toNatClampNeg 0) (D.1 85 0)) q1 (Int32.toNatClampNeg 1) ((pu_wi D q1 (Int32.toNatClampNeg 0) (D.1 85 0)).1 85 1)).1 85 2)) q1 (Int32.toNatClampNeg 3) ((pu_wi (pu_wi (pu_wi D q1 (Int32.toNatClampNeg 0) (D.1 85 0)) q1 (Int32.toNatClampNeg 1) ((pu_wi D q1 (Int32.toNatClampNeg 0) (D.1 85 0)).1 85 1)) q1 (Int32.toNatClampNeg 2) ((pu_wi (pu_wi D q1 (Int32.toNatClampNeg 0) (D.1 85 0)) q1 (Int32.toNatClampNeg 1) ((pu_wi D q1 (Int32.toNatClampNeg 0) (D.1 85 0)).1 85 1)).1 85 2)).1 85 3)).1 85 4)) q1 (Int32.toNatClampNeg 5) ((pu_wi (pu_wi (pu_wi (pu_wi (pu_wi D q1 (Int32.toNatClampNeg 0) (D.1 85 0)) q1 (Int32.toNatClampNeg 1) ((pu_wi D q1 (Int32.toNatClampNeg 0) (D.1 85 0)).1 85 1)) q1 (Int32.toNatClampNeg 2) ((pu_wi (pu_wi D q1 (Int32.toNatClampNeg 0) (D.1 85 0)) q1 (Int32.toNatClampNeg 1) ((pu_wi D q1 (Int32.toNatClampNeg 0) (D.1 85 0)).1 85 1)).1 85 2)) q1 (Int32.toNatClampNeg 3) ((pu_wi (pu_wi (pu_wi D q1 (Int32.toNatClampNeg 0) (D.1 85 0)) q1 (Int32.toNatClampNeg 1) ((pu_wi D q1 (Int32.toNatClampNeg 0) (D.1 85 0)).1 85 1)) q1 (Int32.toNatClampNeg 2) ((pu_wi (pu_wi D q1 (Int32.toNatClampNeg 0) (D.1 85 0)) q1 (Int32.toNatClampNeg 1) ((pu_wi D q1 (Int32.toNatClampNeg 0) (D.1 85 0)).1 85 1)).1 85 2)).1 85 3)) q1 (Int32.toNatClampNeg 4) ((pu_wi (pu_wi (pu_wi (pu_wi D q1 (Int32.toNatClampNeg 0) (D.1 85 0)) q1 (Int32.toNatClampNeg 1) ((pu_wi D q1 (Int32.toNatClampNeg 0) (D.1 85 0)).1 85 1)) q1 (Int32.toNatClampNeg 2) ((pu_wi (pu_wi D q1 (Int32.toNatClampNeg 0) (D.1 85 0)) q1 (Int32.toNatClampNeg 1) ((pu_wi D q1 (Int32.toNatClampNeg 0) (D.1 85 0)).1 85 1)).1 85 2)) q1 (Int32.toNatClampNeg 3) ((pu_wi (pu_wi (pu_wi D q1 (Int32.toNatClampNeg 0) (D.1 85 0)) q1 (Int32.toNatClampNeg 1) ((pu_wi D q1 (Int32.toNatClampNeg 0) (D.1 85 0)).1 85 1)) q1 (Int32.toNatClampNeg 2) ((pu_wi (pu_wi D q1 (Int32.toNatClampNeg 0) (D.1 85 0)) q1 (Int32.toNatClampNeg 1) ((pu_wi D q1 (Int32.toNatClampNeg 0) (D.1 85 0)).1 85 1)).1 85 2)).1 85 3)).1 85 4)).1 85 5)).1 85 6)) q1 (Int32.toNatClampNeg 7) ((pu_wi (pu_wi (pu_wi (pu_wi (pu_wi (pu_wi (pu_wi D q1 (Int32.toNatClampNeg 0) (D.1 85 0)) q1 (Int32.toNatClampNeg 1) ((pu_wi D q1 (Int32.toNatClampNeg 0) (D.1 85 0)).1 85 1)) q1 (Int32.toNatClampNeg 2) ((pu_wi (pu_wi D q1 (Int32.toNatClampNeg 0) (D.1 85 0)) q1 (Int32.toNatClampNeg 1) ((pu_wi D q1 (Int32.toNatClampNeg 0) (D.1 85 0)).1 85 1)).1 85 2)) q1 (Int32.toNatClampNeg 3) ((pu_wi (pu_wi (pu_wi D q1 (Int32.toNatClampNeg 0) (D.1 85 0)) q1 (Int32.toNatClampNeg 1) ((pu_wi D q1 (Int32.toNatClampNeg 0) (D.1 85 0)).1 85 1)) q1 (Int32.toNatClampNeg 2) ((pu_wi (pu_wi D q1 (Int32.toNatClampNeg 0) (D.1 85 0)) q1 (Int32.toNatClampNeg 1) ((pu_wi D q1 (Int32.toNatClampNeg 0) (D.1 85 0)).1 85 1)).1 85 2)).1 85 3)) q1 (Int32.toNatClampNeg 4) ((pu_wi (pu_wi (pu_wi (pu_wi D q1 (Int32.toNatClampNeg 0) (D.1 85 0)) q1 (Int32.toNatClampNeg 1) ((pu_wi D q1 (Int32.toNatClampNeg 0) (D.1 85 0)).1 85 1)) q1 (Int32.toNatClampNeg 2) ((pu_wi (pu_wi D q1 (Int32.toNatClampNeg 0) (D.1 85 0)) q1 (Int32.toNatClampNeg 1) ((pu_wi D q1 (Int32.toNatClampNeg 0) (D.1 85 0)).1 85 1)).1 85 2)) q1 (Int32.toNatClampNeg 3) ((pu_wi (pu_wi (pu_wi D q1 (Int32.toNatClampNeg 0) (D.1 85 0)) q1 (Int32.toNatClampNeg 1) ((pu_wi D q1 (Int32.toNatClampNeg 0) (D.1 85 0)).1 85 1)) q1 (Int32.toNatClampNeg 2) ((pu_wi (pu_wi D q1 (Int32.toNatClampNeg 0) (D.1 85 0)) q1 (Int32.toNatClampNeg 1) ((pu_wi D q1 (Int32.toNatClampNeg 0) (D.1 85 0)).1 85 1)).1 85 2)).1 85 3)).1 85 4)) q1 (Int32.toNatClampNeg 5) ((pu_wi (pu_wi (pu_wi (pu_wi (pu_wi D q1 (Int32.toNatClampNeg 0) (D.1 85 0)) q1 (Int32.toNatClampNeg 1) ((pu_wi D q1 (Int32.toNatClampNeg 0) (D.1 85 0)).1 85 1)) q1 (Int32.toNatClampNeg 2) ((pu_wi (pu_wi D q1 (Int32.toNatClampNeg 0) (D.1 85 0)) q1 (Int32.toNatClampNeg 1) ((pu_wi D q1 (Int32.toNatClampNeg 0) (D.1 85 0)).1 85 1)).1 85 2)) q1 (Int32.toNatClampNeg 3) ((pu_wi (pu_wi (pu_wi D q1 (Int32.toNatClampNeg 0) (D.1 85 0)) q1 (Int32.toNatClampNeg 1) ((pu_wi D q1 (Int32.toNatClampNeg 0) (D.1 85 0)).1 85 1)) q1 (Int32.toNatClampNeg 2) ((pu_wi (pu_wi D q1 (Int32.toNatClampNeg 0) (D.1 85 0)) q1 (Int32.toNatClampNeg 1) ((pu_wi D q1 (Int32.toNatClampNeg 0) (D.1 85 0)).1 85 1)).1 85 2)).1 85 3)) q1 (Int32.toNatClampNeg 4) ((pu_wi (pu_wi (pu_wi (pu_wi D q1 (Int32.toNatClampNeg 0) (D.1 85 0)) q1 (Int32.toNatClampNeg 1) ((pu_wi D q1 (Int32.toNatClampNeg 0) (D.1 85 0)).1 85 1)) q1 (Int32.toNatClampNeg 2) ((pu_wi (pu_wi D q1 (Int32.toNatClampNeg 0) (D.1 85 0)) q1 (Int32.toNatClampNeg 1) ((pu_wi D q1 (Int32.toNatClampNeg 0) (D.1 85 0)).1 85 1)).1 85 2)) q1 (Int32.toNatClampNeg 3) ((pu_wi (pu_wi (pu_wi D q1 (Int32.toNatClampNeg 0) (D.1 85 0)) q1 (Int32.toNatClampNeg 1) ((pu_wi D q1 (Int32.toNatClampNeg 0) (D.1 85 0)).1 85 1)) q1 (Int32.toNatClampNeg 2) ((pu_wi (pu_wi D q1 (Int32.toNatClampNeg 0) (D.1 85 0)) q1 (Int32.toNatClampNeg 1) ((pu_wi D q1 (Int32.toNatClampNeg 0) (D.1 85 0)).1 85 1)).1 85 2)).1 85 3)).1 85 4)).1 85 5)) q1 (Int32.toNatClampNeg 6) ((pu_wi (pu_wi (pu_wi (pu_wi (pu_wi (pu_wi D q1 (Int32.toNatClampNeg 0) (D.1 85 0)) q1 (Int32.toNatClampNeg 1) ((pu_wi D q1 (Int32.toNatClampNeg 0) (D.1 85 0)).1 85 1)) q1 (Int32.toNatClampNeg 2) ((pu_wi (pu_wi D q1 (Int32.toNatClampNeg 0) (D.1 85 0)) q1 (Int32.toNatClampNeg 1) ((pu_wi D q1 (Int32.toNatClampNeg 0) (D.1 85 0)).1 85 1)).1 85 2)) q1 (Int32.toNatClampNeg 3) ((pu_wi (pu_wi (pu_wi D q1 (Int32.toNatClampNeg 0) (D.1 85 0)) q1 (Int32.toNatClampNeg 1) ((pu_wi D q1 (Int32.toNatClampNeg 0) (D.1 85 0)).1 85 1)) q1 (Int32.toNatClampNeg 2) ((pu_wi (pu_wi D q1 (Int32.toNatClampNeg 0) (D.1 85 0)) q1 (Int32.toNatClampNeg 1) ((pu_wi D q1 (Int32.toNatClampNeg 0) (D.1 85 0)).1 85 1)).1 85 2)).1 85 3)) q1 (Int32.toNatClampNeg 4) ((pu_wi (pu_wi (pu_wi (pu_wi D q1 (Int32.toNatClampNeg 0) (D.1 85 0)) q1 (Int32.toNatClampNeg 1) ((pu_wi D q1 (Int32.toNatClampNeg 0) (D.1 85 0)).1 85 1)) q1 (Int32.toNatClampNeg 2) ((pu_wi (pu_wi D q1 (Int32.toNatClampNeg 0) (D.1 85 0)) q1 (Int32.toNatClampNeg 1) ((pu_wi D q1 (Int32.toNatClampNeg 0) (D.1 85 0)).1 85 1)).1 85 2)) q1 (Int32.toNatClampNeg 3) ((pu_wi (pu_wi (pu_wi D q1 (Int32.toNatClampNeg 0) (D.1 85 0)) q1 (Int32.toNatClampNeg 1) ((pu_wi D q1 (Int32.toNatClampNeg 0) (D.1 85 0)).1 85 1)) q1 (Int32.toNatClampNeg 2) ((pu_wi (pu_wi D q1 (Int32.toNatClampNeg 0) (D.1 85 0)) q1 (Int32.toNatClampNeg 1) ((pu_wi D q1 (Int32.toNatClampNeg 0) (D.1 85 0)).1 85 1)).1 85 2)).1 85 3)).1 85 4)) q1 (Int32.toNatClampNeg 5) ((pu_wi (pu_wi (pu_wi (pu_wi (pu_wi D q1 (Int32.toNatClampNeg 0) (D.1 85 0)) q1 (Int32.toNatClampNeg 1) ((pu_wi D q1 (Int32.toNatClampNeg 0) (D.1 85 0)).1 85 1)) q1 (Int32.toNatClampNeg 2) ((pu_wi (pu_wi D q1 (Int32.toNatClampNeg 0) (D.1 85 0)) q1 (Int32.toNatClampNeg 1) ((pu_wi D q1 (Int32.toNatClampNeg 0) (D.1 85 0)).1 85 1)).1 85 2)) q1 (Int32.toNatClampNeg 3) ((pu_wi (pu_wi (pu_wi D q1 (Int32.toNatClampNeg 0) (D.1 85 0)) q1 (Int32.toNatClampNeg 1) ((pu_wi D q1 (Int32.toNatClampNeg 0) (D.1 85 0)).1 85 1)) q1 (Int32.toNatClampNeg 2) ((pu_wi (pu_wi D q1 (Int32.toNatClampNeg 0) (D.1 85 0)) q1 (Int32.toNatClampNeg 1) ((pu_wi D q1 (Int32.toNatClampNeg 0) (D.1 85 0)).1 85 1)).1 85 2)).1 85 3)) q1 (Int32.toNatClampNeg 4) ((pu_wi (pu_wi (pu_wi (pu_wi D q1 (Int32.toNatClampNeg 0) (D.1 85 0)) q1 (Int32.toNatClampNeg 1) ((pu_wi D q1 (Int32.toNatClampNeg 0) (D.1 85 0)).1 85 1)) q1 (Int32.toNatClampNeg 2) ((pu_wi (pu_wi D q1 (Int32.toNatClampNeg 0) (D.1 85 0)) q1 (Int32.toNatClampNeg 1) ((pu_wi D q1 (Int32.toNatClampNeg 0) (D.1 85 0)).1 85 1)).1 85 2)) q1 (Int32.toNatClampNeg 3) ((pu_wi (pu_wi (pu_wi D q1 (Int32.toNatClampNeg 0) (D.1 85 0)) q1 (Int32.toNatClampNeg 1) ((pu_wi D q1 (Int32.toNatClampNeg 0) (D.1 85 0)).1 85 1)) q1 (Int32.toNatClampNeg 2) ((pu_wi (pu_wi D q1 (Int32.toNatClampNeg 0) (D.1 85 0)) q1 (Int32.toNatClampNeg 1) ((pu_wi D q1 (Int32.toNatClampNeg 0) (D.1 85 0)).1 85 1)).1 85 2)).1 85 3)).1 85 4)).1 85 5)).1 85 6)).1 85 7)) q1 (Int32.toNatClampNeg 8) ((pu_wi (pu_wi (pu_wi (pu_wi (pu_wi (pu_wi (pu_wi (pu_wi D q1 (Int32.toNatClampNeg 0) (D.1 85 0)) q1 (Int32.toNatClampNeg 1) ((pu_wi D q1 (Int32.toNatClampNeg 0) (D.1 85 0)).1 85 1)) q1 (Int32.toNatClampNeg 2) ((pu_wi (pu_wi D q1 (Int32.toNatClampNeg 0) (D.1 85 0)) q1 (Int32.toNatClampNeg 1) ((pu_wi D q1 (Int32.toNatClampNeg 0) (D.1 85 0)).1 85 1)).1 85 2)) q1 (Int32.toNatClampNeg 3) ((pu_wi (pu_wi (pu_wi D q1 (Int32.toNatClampNeg 0) (D.1 85 0)) q1 (Int32.toNatClampNeg 1) ((pu_wi D q1 (Int32.toNatClampNeg 0) (D.1 85 0)).1 85 1)) q1 (Int32.toNatClampNeg 2) ((pu_wi (pu_wi D q1 (Int32.toNatClampNeg 0) (D.1 85 0)) q1 (Int32.toNatClampNeg 1) ((pu_wi D q1 (Int32.toNatClampNeg 0) (D.1 85 0)).1 85 1)).1 85 2)).1 85 3)) q1 (Int32.toNatClampNeg 4) ((pu_wi (pu_wi (pu_wi (pu_wi D q1 (Int32.toNatClampNeg 0) (D.1 85 0)) q1 (Int32.toNatClampNeg 1) ((pu_wi D q1 (Int32.toNatClampNeg 0) (D.1 85 0)).1 85 1)) q1 (Int32.toNatClampNeg 2) ((pu_wi (pu_wi D q1 (Int32.toNatClampNeg 0) (D.1 85 0)) q1 (Int32.toNatClampNeg 1) ((pu_wi D q1 (Int32.toNatClampNeg 0) (D.1 85 0)).1 85 1)).1 85 2)) q1 (Int32.toNatClampNeg 3) ((pu_wi (pu_wi (pu_wi D q1 (Int32.toNatClampNeg 0) (D.1 85 0)) q1 (Int32.toNatClampNeg 1) ((pu_wi D q1 (Int32.toNatClampNeg 0) (D.1 85 0)).1 85 1)) q1 (Int32.toNatClampNeg 2) ((pu_wi (pu_wi D q1 (Int32.toNatClampNeg 0) (D.1 85 0)) q1 (Int32.toNatClampNeg 1) ((pu_wi D q1 (Int32.toNatClampNeg 0) (D.1 85 0)).1 85 1)).1 85 2)).1 85 3)).1 85 4)) q1 (Int32.toNatClampNeg 5) ((pu_wi (pu_wi (pu_wi (pu_wi (pu_wi D q1 (Int32.toNatClampNeg 0) (D.1 85 0)) q1 (Int32.toNatClampNeg 1) ((pu_wi D q1 (Int32.toNatClampNeg 0) (D.1 85 0)).1 85 1)) q1 (Int32.toNatClampNeg 2) ((pu_wi (pu_wi D q1 (Int32.toNatClampNeg 0) (D.1 85 0)) q1 (Int32.toNatClampNeg 1) ((pu_wi D q1 (Int32.toNatClampNeg 0) (D.1 85 0)).1 85 1)).1 85 2)) q1 (Int32.toNatClampNeg 3) ((pu_wi (pu_wi (pu_wi D q1 (Int32.toNatClampNeg 0) (D.1 85 0)) q1 (Int32.toNatClampNeg 1) ((pu_wi D q1 (Int32.toNatClampNeg 0) (D.1 85 0)).1 85 1)) q1 (Int32.toNatClampNeg 2) ((pu_wi (pu_wi D q1 (Int32.toNatClampNeg 0) (D.1 85 0)) q1 (Int32.toNatClampNeg 1) ((pu_wi D q1 (Int32.toNatClampNeg 0) (D.1 85 0)).1 85 1)).1 85 2)).1 85 3)) q1 (Int32.toNatClampNeg 4) ((pu_wi (pu_wi (pu_wi (pu_wi D q1 (Int32.toNatClampNeg 0) (D.1 85 0)) q1 (Int32.toNatClampNeg 1) ((pu_wi D q1 (Int32.toNatClampNeg 0) (D.1 85 0)).1 85 1)) q1 (Int32.toNatClampNeg 2) ((pu_wi (pu_wi D q1 (Int32.toNatClampNeg 0) (D.1 85 0)) q1 (Int32.toNatClampNeg 1) ((pu_wi D q1 (Int32.toNatClampNeg 0) (D.1 85 0)).1 85 1)).1 85 2)) q1 (Int32.toNatClampNeg 3) ((pu_wi (pu_wi (pu_wi D q1 (Int32.toNatClampNeg 0) (D.1 85 0)) q1 (Int32.toNatClampNeg 1) ((pu_wi D q1 (Int32.toNatClampNeg 0) (D.1 85 0)).1 85 1)) q1 (Int32.toNatClampNeg 2) ((pu_wi (pu_wi D q1 (Int32.toNatClampNeg 0) (D.1 85 0)) q1 (Int32.toNatClampNeg 1) ((pu_wi D q1 (Int32.toNatClampNeg 0) (D.1 85 0)).1 85 1)).1 85 2)).1 85 3)).1 85 4)).1 85 5)) q1 (Int32.toNatClampNeg 6) ((pu_wi (pu_wi (pu_wi (pu_wi (pu_wi (pu_wi D q1 (Int32.toNatClampNeg 0) (D.1 85 0)) q1 (Int32.toNatClampNeg 1) ((pu_wi D q1 (Int32.toNatClampNeg 0) (D.1 85 0)).1 85 1)) q1 (Int32.toNatClampNeg 2) ((pu_wi (pu_wi D q1 (Int32.toNatClampNeg 0) (D.1 85 0)) q1 (Int32.toNatClampNeg 1) ((pu_wi D q1 (Int32.toNatClampNeg 0) (D.1 85 0)).1 85 1)).1 85 2)) q1 (Int32.toNatClampNeg 3) ((pu_wi (pu_wi (pu_wi D q1 (Int32.toNatClampNeg 0) (D.1 85 0)) q1 (Int32.toNatClampNeg 1) ((pu_wi D q1 (Int32.toNatClampNeg 0) (D.1 85 0)).1 85 1)) q1 (Int32.toNatClampNeg 2) ((pu_wi (pu_wi D q1 (Int32.toNatClampNeg 0) (D.1 85 0)) q1 (Int32.toNatClampNeg 1) ((pu_wi D q1 (Int32.toNatClampNeg 0) (D.1 85 0)).1 85 1)).1 85 2)).1 85 3)) q1 (Int32.toNatClampNeg 4) ((pu_wi (pu_wi (pu_wi (pu_wi D q1 (Int32.toNatClampNeg 0) (D.1 85 0)) q1 (Int32.toNatClampNeg 1) ((pu_wi D q1 (Int32.toNatClampNeg 0) (D.1 85 0)).1 85 1)) q1 (Int32.toNatClampNeg 2) ((pu_wi (pu_wi D q1 (Int32.toNatClampNeg 0) (D.1 85 0)) q1 (Int32.toNatClampNeg 1) ((pu_wi D q1 (Int32.toNatClampNeg 0) (D.1 85 0)).1 85 1)).1 85 2)) q1 (Int32.toNatClampNeg 3) ((pu_wi (pu_wi (pu_wi D q1 (Int32.toNatClampNeg 0) (D.1 85 0)) q1 (Int32.toNatClampNeg 1) ((pu_wi D q1 (Int32.toNatClampNeg 0) (D.1 85 0)).1 85 1)) q1 (Int32.toNatClampNeg 2) ((pu_wi (pu_wi D q1 (Int32.toNatClampNeg 0) (D.1 85 0)) q1 (Int32.toNatClampNeg 1) ((pu_wi D q1 (Int32.toNatClampNeg 0) (D.1 85 0)).1 85 1)).1 85 2)).1 85 3)).1 85 4)) q1 (Int32.toNatClampNeg 5) ((pu_wi (pu_wi (pu_wi (pu_wi (pu_wi D q1 (Int32.toNatClampNeg 0) (D.1 85 0)) q1 (Int32.toNatClampNeg 1) ((pu_wi D q1 (Int32.toNatClampNeg 0) (D.1 85 0)).1 85 1)) q1 (Int32.toNatClampNeg 2) ((pu_wi (pu_wi D q1 (Int32.toNatClampNeg 0) (D.1 85 0)) q1 (Int32.toNatClampNeg 1) ((pu_wi D q1 (Int32.toNatClampNeg 0) (D.1 85 0)).1 85 1)).1 85 2)) q1 (Int32.toNatClampNeg 3) ((pu_wi (pu_wi (pu_wi D q1 (Int32.toNatClampNeg 0) (D.1 85 0)) q1 (Int32.toNatClampNeg 1) ((pu_wi D q1 (Int32.toNatClampNeg 0) (D.1 85 0)).1 85 1)) q1 (Int32.toNatClampNeg 2) ((pu_wi (pu_wi D q1 (Int32.toNatClampNeg 0) (D.1 85 0)) q1 (Int32.toNatClampNeg 1) ((pu_wi D q1 (Int32.toNatClampNeg 0) (D.1 85 0)).1 85 1)).1 85 2)).1 85 3)) q1 (Int32.toNatClampNeg 4) ((pu_wi (pu_wi (pu_wi (pu_wi D q1 (Int32.toNatClampNeg 0) (D.1 85 0)) q1 (Int32.toNatClampNeg 1) ((pu_wi D q1 (Int32.toNatClampNeg 0) (D.1 85 0)).1 85 1)) q1 (Int32.toNatClampNeg 2) ((pu_wi (pu_wi D q1 (Int32.toNatClampNeg 0) (D.1 85 0)) q1 (Int32.toNatClampNeg 1) ((pu_wi D q1 (Int32.toNatClampNeg 0) (D.1 85 0)).1 85 1)).1 85 2)) q1 (Int32.toNatClampNeg 3) ((pu_wi (pu_wi (pu_wi D q1 (Int32.toNatClampNeg 0) (D.1 85 0)) q1 (Int32.toNatClampNeg 1) ((pu_wi D q1 (Int32.toNatClampNeg 0) (D.1 85 0)).1 85 1)) q1 (Int32.toNatClampNeg 2) ((pu_wi (pu_wi D q1 (Int32.toNatClampNeg 0) (D.1 85 0)) q1 (Int32.toNatClampNeg 1) ((pu_wi D q1 (Int32.toNatClampNeg 0) (D.1 85 0)).1 85 1)).1 85 2)).1 85 3)).1 85 4)).1 85 5)).1 85 6)) q1 (Int32.toNatClampNeg 7) ((pu_wi (pu_wi (pu_wi (pu_wi (pu_wi (pu_wi (pu_wi D q1 (Int32.toNatClampNeg 0) (D.1 85 0)) q1 (Int32.toNatClampNeg 1) ((pu_wi D q1 (Int32.toNatClampNeg 0) (D.1 85 0)).1 85 1)) q1 (Int32.toNatClampNeg 2) ((pu_wi (pu_wi D q1 (Int32.toNatClampNeg 0) (D.1 85 0)) q1 (Int32.toNatClampNeg 1) ((pu_wi D q1 (Int32.toNatClampNeg 0) (D.1 85 0)).1 85 1)).1 85 2)) q1 (Int32.toNatClampNeg 3) ((pu_wi (pu_wi (pu_wi D q1 (Int32.toNatClampNeg 0) (D.1 85 0)) q1 (Int32.toNatClampNeg 1) ((pu_wi D q1 (Int32.toNatClampNeg 0) (D.1 85 0)).1 85 1)) q1 (Int32.toNatClampNeg 2) ((pu_wi (pu_wi D q1 (Int32.toNatClampNeg 0) (D.1 85 0)) q1 (Int32.toNatClampNeg 1) ((pu_wi D q1 (Int32.toNatClampNeg 0) (D.1 85 0)).1 85 1)).1 85 2)).1 85 3)) q1 (Int32.toNatClampNeg 4) ((pu_wi (pu_wi (pu_wi (pu_wi D q1 (Int32.toNatClampNeg 0) (D.1 85 0)) q1 (Int32.toNatClampNeg 1) ((pu_wi D q1 (Int32.toNatClampNeg 0) (D.1 85 0)).1 85 1)) q1 (Int32.toNatClampNeg 2) ((pu_wi (pu_wi D q1 (Int32.toNatClampNeg 0) (D.1 85 0)) q1 (Int32.toNatClampNeg 1) ((pu_wi D q1 (Int32.toNatClampNeg 0) (D.1 85 0)).1 85 1)).1 85 2)) q1 (Int32.toNatClampNeg 3) ((pu_wi (pu_wi (pu_wi D q1 (Int32.toNatClampNeg 0) (D.1 85 0)) q1 (Int32.toNatClampNeg 1) ((pu_wi D q1 (Int32.toNatClampNeg 0) (D.1 85 0)).1 85 1)) q1 (Int32.toNatClampNeg 2) ((pu_wi (pu_wi D q1 (Int32.toNatClampNeg 0) (D.1 85 0)) q1 (Int32.toNatClampNeg 1) ((pu_wi D q1 (Int32.toNatClampNeg 0) (D.1 85 0)).1 85 1)).1 85 2)).1 85 3)).1 85 4)) q1 (Int32.toNatClampNeg 5) ((pu_wi (pu_wi (pu_wi (pu_wi (pu_wi D q1 (Int32.toNatClampNeg 0) (D.1 85 0)) q1 (Int32.toNatClampNeg 1) ((pu_wi D q1 (Int32.toNatClampNeg 0) (D.1 85 0)).1 85 1)) q1 (Int32.toNatClampNeg 2) ((pu_wi (pu_wi D q1 (Int32.toNatClampNeg 0) (D.1 85 0)) q1 (Int32.toNatClampNeg 1) ((pu_wi D q1 (Int32.toNatClampNeg 0) (D.1 85 0)).1 85 1)).1 85 2)) q1 (Int32.toNatClampNeg 3) ((pu_wi (pu_wi (pu_wi D q1 (Int32.toNatClampNeg 0) (D.1 85 0)) q1 (Int32.toNatClampNeg 1) ((pu_wi D q1 (Int32.toNatClampNeg 0) (D.1 85 0)).1 85 1)) q1 (Int32.toNatClampNeg 2) ((pu_wi (pu_wi D q1 (Int32.toNatClampNeg 0) (D.1 85 0)) q1 (Int32.toNatClampNeg 1) ((pu_wi D q1 (Int32.toNatClampNeg 0) (D.1 85 0)).1 85 1)).1 85 2)).1 85 3)) q1 (Int32.toNatClampNeg 4) ((pu_wi (pu_wi (pu_wi (pu_wi D q1 (Int32.toNatClampNeg 0) (D.1 85 0)) q1 (Int32.toNatClampNeg 1) ((pu_wi D q1 (Int32.toNatClampNeg 0) (D.1 85 0)).1 85 1)) q1 (Int32.toNatClampNeg 2) ((pu_wi (pu_wi D q1 (Int32.toNatClampNeg 0) (D.1 85 0)) q1 (Int32.toNatClampNeg 1) ((pu_wi D q1 (Int32.toNatClampNeg 0) (D.1 85 0)).1 85 1)).1 85 2)) q1 (Int32.toNatClampNeg 3) ((pu_wi (pu_wi (pu_wi D q1 (Int32.toNatClampNeg 0) (D.1 85 0)) q1 (Int32.toNatClampNeg 1) ((pu_wi D q1 (Int32.toNatClampNeg 0) (D.1 85 0)).1 85 1)) q1 (Int32.toNatClampNeg 2) ((pu_wi (pu_wi D q1 (Int32.toNatClampNeg 0) (D.1 85 0)) q1 (Int32.toNatClampNeg 1) ((pu_wi D q1 (Int32.toNatClampNeg 0) (D.1 85 0)).1 85 1)).1 85 2)).1 85 3)).1 85 4)).1 85 5)) q1 (Int32.toNatClampNeg 6) ((pu_wi (pu_wi (pu_wi (pu_wi (pu_wi (pu_wi D q1 (Int32.toNatClampNeg 0) (D.1 85 0)) q1 (Int32.toNatClampNeg 1) ((pu_wi D q1 (Int32.toNatClampNeg 0) (D.1 85 0)).1 85 1)) q1 (Int32.toNatClampNeg 2) ((pu_wi (pu_wi D q1 (Int32.toNatClampNeg 0) (D.1 85 0)) q1 (Int32.toNatClampNeg 1) ((pu_wi D q1 (Int32.toNatClampNeg 0) (D.1 85 0)).1 85 1)).1 85 2)) q1 (Int32.toNatClampNeg 3) ((pu_wi (pu_wi (pu_wi D q1 (Int32.toNatClampNeg 0) (D.1 85 0)) q1 (Int32.toNatClampNeg 1) ((pu_wi D q1 (Int32.toNatClampNeg 0) (D.1 85 0)).1 85 1)) q1 (Int32.toNatClampNeg 2) ((pu_wi (pu_wi D q1 (Int32.toNatClampNeg 0) (D.1 85 0)) q1 (Int32.toNatClampNeg 1) ((pu_wi D q1 (Int32.toNatClampNeg 0) (D.1 85 0)).1 85 1)).1 85 2)).1 85 3)) q1 (Int32.toNatClampNeg 4) ((pu_wi (pu_wi (pu_wi (pu_wi D q1 (Int32.toNatClampNeg 0) (D.1 85 0)) q1 (Int32.toNatClampNeg 1) ((pu_wi D q1 (Int32.toNatClampNeg 0) (D.1 85 0)).1 85 1)) q1 (Int32.toNatClampNeg 2) ((pu_wi (pu_wi D q1 (Int32.toNatClampNeg 0) (D.1 85 0)) q1 (Int32.toNatClampNeg 1) ((pu_wi D q1 (Int32.toNatClampNeg 0) (D.1 85 0)).1 85 1)).1 85 2)) q1 (Int32.toNatClampNeg 3) ((pu_wi (pu_wi (pu_wi D q1 (Int32.toNatClampNeg 0) (D.1 85 0)) q1 (Int32.toNatClampNeg 1) ((pu_wi D q1 (Int32.toNatClampNeg 0) (D.1 85 0)).1 85 1)) q1 (Int32.toNatClampNeg 2) ((pu_wi (pu_wi D q1 (Int32.toNatClampNeg 0) (D.1 85 0)) q1 (Int32.toNatClampNeg 1) ((pu_wi D q1 (Int32.toNatClampNeg 0) (D.1 85 0)).1 85 1)).1 85 2)).1 85 3)).1 85 4)) q1 (Int32.toNatClampNeg 5) ((pu_wi (pu_wi (pu_wi (pu_wi (pu_wi D q1 (Int32.toNatClampNeg 0) (D.1 85 0)) q1 (Int32.toNatClampNeg 1) ((pu_wi D q1 (Int32.toNatClampNeg 0) (D.1 85 0)).1 85 1)) q1 (Int32.toNatClampNeg 2) ((pu_wi (pu_wi D q1 (Int32.toNatClampNeg 0) (D.1 85 0)) q1 (Int32.toNatClampNeg 1) ((pu_wi D q1 (Int32.toNatClampNeg 0) (D.1 85 0)).1 85 1)).1 85 2)) q1 (Int32.toNatClampNeg 3) ((pu_wi (pu_wi (pu_wi D q1 (Int32.toNatClampNeg 0) (D.1 85 0)) q1 (Int32.toNatClampNeg 1) ((pu_wi D q1 (Int32.toNatClampNeg 0) (D.1 85 0)).1 85 1)) q1 (Int32.toNatClampNeg 2) ((pu_wi (pu_wi D q1 (Int32.toNatClampNeg 0) (D.1 85 0)) q1 (Int32.toNatClampNeg 1) ((pu_wi D q1 (Int32.toNatClampNeg 0) (D.1 85 0)).1 85 1)).1 85 2)).1 85 3)) q1 (Int32.toNatClampNeg 4) ((pu_wi (pu_wi (pu_wi (pu_wi D q1 (Int32.toNatClampNeg 0) (D.1 85 0)) q1 (Int32.toNatClampNeg 1) ((pu_wi D q1 (Int32.toNatClampNeg 0) (D.1 85 0)).1 85 1)) q1 (Int32.toNatClampNeg 2) ((pu_wi (pu_wi D q1 (Int32.toNatClampNeg 0) (D.1 85 0)) q1 (Int32.toNatClampNeg 1) ((pu_wi D q1 (Int32.toNatClampNeg 0) (D.1 85 0)).1 85 1)).1 85 2)) q1 (Int32.toNatClampNeg 3) ((pu_wi (pu_wi (pu_wi D q1 (Int32.toNatClampNeg 0) (D.1 85 0)) q1 (Int32.toNatClampNeg 1) ((pu_wi D q1 (Int32.toNatClampNeg 0) (D.1 85 0)).1 85 1)) q1 (Int32.toNatClampNeg 2) ((pu_wi (pu_wi D q1 (Int32.toNatClampNeg 0) (D.1 85 0)) q1 (Int32.toNatClampNeg 1) ((pu_wi D q1 (Int32.toNatClampNeg 0) (D.1 85 0)).1 85 1)).1 85 2)).1 85 3)).1 85 4)).1 85 5)).1 85 6)).1 85 7)).1 85 8)).1 85 9)).1 85 10))) else ((px_in 0 (pu_ln q1) = true) ∧ (px_in 1 (pu_ln q1) = true) ∧ (px_in 2 (pu_ln q1) = true) ∧ (px_in 3 (pu_ln q1) = true) ∧ (px_in 4 (pu_ln q1) = true) ∧ (px_in 5 (pu_ln q1) = true) ∧ (px_in 6 (pu_ln q1) = true) ∧ (px_in 7 (pu_ln q1) = true) ∧ (px_in 8 (pu_ln q1) = true) ∧ (px_in 9 (pu_ln q1) = true) ∧ (px_in 10 (pu_ln q1) = true) ∧ P (pu_wi (pu_wi (pu_wi (pu_wi (pu_wi (pu_wi (pu_wi (pu_wi (pu_wi (pu_wi (pu_wi D 85 0 (D.1 q1 (Int32.toNatClampNeg 0))) 85 1 ((pu_wi D 85 0 (D.1 q1 (Int32.toNatClampNeg 0))).1 q1 (Int32.toNatClampNeg 1))) 85 2 ((pu_wi (pu_wi D 85 0 (D.1 q1 (Int32.toNatClampNeg 0))) 85 1 ((pu_wi D 85 0 (D.1 q1 (Int32.toNatClampNeg 0))).1 q1 (Int32.toNatClampNeg 1))).1 q1 (Int32.toNatClampNeg 2))) 85 3 ((pu_wi (pu_wi (pu_wi D 85 0 (D.1 q1 (Int32.toNatClampNeg 0))) 85 1 ((pu_wi D 85 0 (D.1 q1 (Int32.toNatClampNeg 0))).1 q1 (Int32.toNatClampNeg 1))) 85 2 ((pu_wi (pu_wi D 85 0 (D.1 q1 (Int32.toNatClampNeg 0))) 85 1 ((pu_wi D 85 0 (D.1 q1 (Int32.toNatClampNeg 0))).1 q1 (Int32.toNatClampNeg 1))).1 q1 (Int32.toNatClampNeg 2))).1 q1 (Int32.toNatClampNeg 3))) 85 4 ((pu_wi (pu_wi (pu_wi (pu_wi D 85 0 (D.1 q1 (Int32.toNatClampNeg 0))) 85 1 ((pu_wi D 85 0 (D.1 q1 (Int32.toNatClampNeg 0))).1 q1 (Int32.toNatClampNeg 1))) 85 2 ((pu_wi (pu_wi D 85 0 (D.1 q1 (Int32.toNatClampNeg 0))) 85 1 ((pu_wi D 85 0 (D.1 q1 (Int32.toNatClampNeg 0))).1 q1 (Int32.toNatClampNeg 1))).1 q1 (Int32.toNatClampNeg 2))) 85 3 ((pu_wi (pu_wi (pu_wi D 85 0 (D.1 q1 (Int32.toNatClampNeg 0))) 85 1 ((pu_wi D 85 0 (D.1 q1 (Int32.toNatClampNeg 0))).1 q1 (Int32.toNatClampNeg 1))) 85 2 ((pu_wi (pu_wi D 85 0 (D.1 q1 (Int32.toNatClampNeg 0))) 85 1 ((pu_wi D 85 0 (D.1 q1 (Int32.toNatClampNeg 0))).1 q1 (Int32.toNatClampNeg 1))).1 q1 (Int32.toNatClampNeg 2))).1 q1 (Int32.toNatClampNeg 3))).1 q1 (Int32.toNatClampNeg 4))) 85 5 ((pu_wi (pu_wi (pu_wi (pu_wi (pu_wi D 85 0 (D.1 q1 (Int32.toNatClampNeg 0))) 85 1 ((pu_wi D 85 0 (D.1 q1 (Int32.toNatClampNeg 0))).1 q1 (Int32.toNatClampNeg 1))) 85 2 ((pu_wi (pu_wi D 85 0 (D.1 q1 (Int32.toNatClampNeg 0))) 85 1 ((pu_wi D 85 0 (D.1 q1 (Int32.toNatClampNeg 0))).1 q1 (Int32.toNatClampNeg 1))).1 q1 (Int32.toNatClampNeg 2))) 85 3 ((pu_wi (pu_wi (pu_wi D 85 0 (D.1 q1 (Int32.toNatClampNeg 0))) 85 1 ((pu_wi D 85 0 (D.1 q1 (Int32.toNatClampNeg 0))).1 q1 (Int32.toNatClampNeg 1))) 85 2 ((pu_wi (pu_wi D 85 0 (D.1 q1 (Int32.toNatClampNeg 0))) 85 1 ((pu_wi D 85 0 (D.1 q1 (Int32.toNatClampNeg 0))).1 q1 (Int32.toNatClampNeg 1))).1 q1 (Int32.toNatClampNeg 2))).1 q1 (Int32.toNatClampNeg 3))) 85 4 ((pu_wi (pu_wi (pu_wi (pu_wi D 85 0 (D.1 q1 (Int32.toNatClampNeg 0))) 85 1 ((pu_wi D 85 0 (D.1 q1 (Int32.toNatClampNeg 0))).1 q1 (Int32.toNatClampNeg 1))) 85 2 ((pu_wi (pu_wi D 85 0 (D.1 q1 (Int32.toNatClampNeg 0))) 85 1 ((pu_wi D 85 0 (D.1 q1 (Int32.toNatClampNeg 0))).1 q1 (Int32.toNatClampNeg 1))).1 q1 (Int32.toNatClampNeg 2))) 85 3 ((pu_wi (pu_wi (pu_wi D 85 0 (D.1 q1 (Int32.toNatClampNeg 0))) 85 1 ((pu_wi D 85 0 (D.1 q1 (Int32.toNatClampNeg 0))).1 q1 (Int32.toNatClampNeg 1))) 85 2 ((pu_wi (pu_wi D 85 0 (D.1 q1 (Int32.toNatClampNeg 0))) 85 1 ((pu_wi D 85 0 (D.1 q1 (Int32.toNatClampNeg 0))).1 q1 (Int32.toNatClampNeg 1))).1 q1 (Int32.toNatClampNeg 2))).1 q1 (Int32.toNatClampNeg 3))).1 q1 (Int32.toNatClampNeg 4))).1 q1 (Int32.toNatClampNeg 5))) 85 6 ((pu_wi (pu_wi (pu_wi (pu_wi (pu_wi (pu_wi D 85 0 (D.1 q1 (Int32.toNatClampNeg 0))) 85 1 ((pu_wi D 85 0 (D.1 q1 (Int32.toNatClampNeg 0))).1 q1 (Int32.toNatClampNeg 1))) 85 2 ((pu_wi (pu_wi D 85 0 (D.1 q1 (Int32.toNatClampNeg 0))) 85 1 ((pu_wi D 85 0 (D.1 q1 (Int32.toNatClampNeg 0))).1 q1 (Int32.toNatClampNeg 1))).1 q1 (Int32.toNatClampNeg 2))) 85 3 ((pu_wi (pu_wi (pu_wi D 85 0 (D.1 q1 (Int32.toNatClampNeg 0))) 85 1 ((pu_wi D 85 0 (D.1 q1 (Int32.toNatClampNeg 0))).1 q1 (Int32.toNatClampNeg 1))) 85 2 ((pu_wi (pu_wi D 85 0 (D.1 q1 (Int32.toNatClampNeg 0))) 85 1 ((pu_wi D 85 0 (D.1 q1 (Int32.toNatClampNeg 0))).1 q1 (Int32.toNatClampNeg 1))).1 q1 (Int32.toNatClampNeg 2))).1 q1 (Int32.toNatClampNeg 3))) 85 4 ((pu_wi (pu_wi (pu_wi (pu_wi D 85 0 (D.1 q1 (Int32.toNatClampNeg 0))) 85 1 ((pu_wi D 85 0 (D.1 q1 (Int32.toNatClampNeg 0))).1 q1 (Int32.toNatClampNeg 1))) 85 2 ((pu_wi (pu_wi D 85 0 (D.1 q1 (Int32.toNatClampNeg 0))) 85 1 ((pu_wi D 85 0 (D.1 q1 (Int32.toNatClampNeg 0))).1 q1 (Int32.toNatClampNeg 1))).1 q1 (Int32.toNatClampNeg 2))) 85 3 ((pu_wi (pu_wi (pu_wi D 85 0 (D.1 q1 (Int32.toNatClampNeg 0))) 85 1 ((pu_wi D 85 0 (D.1 q1 (Int32.toNatClampNeg 0))).1 q1 (Int32.toNatClampNeg 1))) 85 2 ((pu_wi (pu_wi D 85 0 (D.1 q1 (Int32.toNatClampNeg 0))) 85 1 ((pu_wi D 85 0 (D.1 q1 (Int32.toNatClampNeg 0))).1 q1 (Int32.toNatClampNeg 1))).1 q1 (Int32.toNatClampNeg 2))).1 q1 (Int32.toNatClampNeg 3))).1 q1 (Int32.toNatClampNeg 4))) 85 5 ((pu_wi (pu_wi (pu_wi (pu_wi (pu_wi D 85 0 (D.1 q1 (Int32.toNatClampNeg 0))) 85 1 ((pu_wi D 85 0 (D.1 q1 (Int32.toNatClampNeg 0))).1 q1 (Int32.toNatClampNeg 1))) 85 2 ((pu_wi (pu_wi D 85 0 (D.1 q1 (Int32.toNatClampNeg 0))) 85 1 ((pu_wi D 85 0 (D.1 q1 (Int32.toNatClampNeg 0))).1 q1 (Int32.toNatClampNeg 1))).1 q1 (Int32.toNatClampNeg 2))) 85 3 ((pu_wi (pu_wi (pu_wi D 85 0 (D.1 q1 (Int32.toNatClampNeg 0))) 85 1 ((pu_wi D 85 0 (D.1 q1 (Int32.toNatClampNeg 0))).1 q1 (Int32.toNatClampNeg 1))) 85 2 ((pu_wi (pu_wi D 85 0 (D.1 q1 (Int32.toNatClampNeg 0))) 85 1 ((pu_wi D 85 0 (D.1 q1 (Int32.toNatClampNeg 0))).1 q1 (Int32.toNatClampNeg 1))).1 q1 (Int32.toNatClampNeg 2))).1 q1 (Int32.toNatClampNeg 3))) 85 4 ((pu_wi (pu_wi (pu_wi (pu_wi D 85 0 (D.1 q1 (Int32.toNatClampNeg 0))) 85 1 ((pu_wi D 85 0 (D.1 q1 (Int32.toNatClampNeg 0))).1 q1 (Int32.toNatClampNeg 1))) 85 2 ((pu_wi (pu_wi D 85 0 (D.1 q1 (Int32.toNatClampNeg 0))) 85 1 ((pu_wi D 85 0 (D.1 q1 (Int32.toNatClampNeg 0))).1 q1 (Int32.toNatClampNeg 1))).1 q1 (Int32.toNatClampNeg 2))) 85 3 ((pu_wi (pu_wi (pu_wi D 85 0 (D.1 q1 (Int32.toNatClampNeg 0))) 85 1 ((pu_wi D 85 0 (D.1 q1 (Int32.toNatClampNeg 0))).1 q1 (Int32.toNatClampNeg 1))) 85 2 ((pu_wi (pu_wi D 85 0 (D.1 q1 (Int32.toNatClampNeg 0))) 85 1 ((pu_wi D 85 0 (D.1 q1 (Int32.toNatClampNeg 0))).1 q1 (Int32.toNatClampNeg 1))).1 q1 (Int32.toNatClampNeg 2))).1 q1 (Int32.toNatClampNeg 3))).1 q1 (Int32.toNatClampNeg 4))).1 q1 (Int32.toNatClampNeg 5))).1 q1 (Int32.toNatClampNeg 6))) 85 7 ((pu_wi (pu_wi (pu_wi (pu_wi (pu_wi (pu_wi (pu_wi D 85 0 (D.1 q1 (Int32.toNatClampNeg 0))) 85 1 ((pu_wi D 85 0 (D.1 q1 (Int32.toNatClampNeg 0))).1 q1 (Int32.toNatClampNeg 1))) 85 2 ((pu_wi (pu_wi D 85 0 (D.1 q1 (Int32.toNatClampNeg 0))) 85 1 ((pu_wi D 85 0 (D.1 q1 (Int32.toNatClampNeg 0))).1 q1 (Int32.toNatClampNeg 1))).1 q1 (Int32.toNatClampNeg 2))) 85 3 ((pu_wi (pu_wi (pu_wi D 85 0 (D.1 q1 (Int32.toNatClampNeg 0))) 85 1 ((pu_wi D 85 0 (D.1 q1 (Int32.toNatClampNeg 0))).1 q1 (Int32.toNatClampNeg 1))) 85 2 ((pu_wi (pu_wi D 85 0 (D.1 q1 (Int32.toNatClampNeg 0))) 85 1 ((pu_wi D 85 0 (D.1 q1 (Int32.toNatClampNeg 0))).1 q1 (Int32.toNatClampNeg 1))).1 q1 (Int32.toNatClampNeg 2))).1 q1 (Int32.toNatClampNeg 3))) 85 4 ((pu_wi (pu_wi (pu_wi (pu_wi D 85 0 (D.1 q1 (Int32.toNatClampNeg 0))) 85 1 ((pu_wi D 85 0 (D.1 q1 (Int32.toNatClampNeg 0))).1 q1 (Int32.toNatClampNeg 1))) 85 2 ((pu_wi (pu_wi D 85 0 (D.1 q1 (Int32.toNatClampNeg 0))) 85 1 ((pu_wi D 85 0 (D.1 q1 (Int32.toNatClampNeg 0))).1 q1 (Int32.toNatClampNeg 1))).1 q1 (Int32.toNatClampNeg 2))) 85 3 ((pu_wi (pu_wi (pu_wi D 85 0 (D.1 q1 (Int32.toNatClampNeg 0))) 85 1 ((pu_wi D 85 0 (D.1 q1 (Int32.toNatClampNeg 0))).1 q1 (Int32.toNatClampNeg 1))) 85 2 ((pu_wi (pu_wi D 85 0 (D.1 q1 (Int32.toNatClampNeg 0))) 85 1 ((pu_wi D 85 0 (D.1 q1 (Int32.toNatClampNeg 0))).1 q1 (Int32.toNatClampNeg 1))).1 q1 (Int32.toNatClampNeg 2))).1 q1 (Int32.toNatClampNeg 3))).1 q1 (Int32.toNatClampNeg 4))) 85 5 ((pu_wi (pu_wi (pu_wi (pu_wi (pu_wi D 85 0 (D.1 q1 (Int32.toNatClampNeg 0))) 85 1 ((pu_wi D 85 0 (D.1 q1 (Int32.toNatClampNeg 0))).1 q1 (Int32.toNatClampNeg 1))) 85 2 ((pu_wi (pu_wi D 85 0 (D.1 q1 (Int32.toNatClampNeg 0))) 85 1 ((pu_wi D 85 0 (D.1 q1 (Int32.toNatClampNeg 0))).1 q1 (Int32.toNatClampNeg 1))).1 q1 (Int32.toNatClampNeg 2))) 85 3 ((pu_wi (pu_wi (pu_wi D 85 0 (D.1 q1 (Int32.toNatClampNeg 0))) 85 1 ((pu_wi D 85 0 (D.1 q1 (Int32.toNatClampNeg 0))).1 q1 (Int32.toNatClampNeg 1))) 85 2 ((pu_wi (pu_wi D 85 0 (D.1 q1 (Int32.toNatClampNeg 0))) 85 1 ((pu_wi D 85 0 (D.1 q1 (Int32.toNatClampNeg 0))).1 q1 (Int32.toNatClampNeg 1))).1 q1 (Int32.toNatClampNeg 2))).1 q1 (Int32.toNatClampNeg 3))) 85 4 ((pu_wi (pu_wi (pu_wi (pu_wi D 85 0 (D.1 q1 (Int32.toNatClampNeg 0))) 85 1 ((pu_wi D 85 0 (D.1 q1 (Int32.toNatClampNeg 0))).1 q1 (Int32.toNatClampNeg 1))) 85 2 ((pu_wi (pu_wi D 85 0 (D.1 q1 (Int32.toNatClampNeg 0))) 85 1 ((pu_wi D 85 0 (D.1 q1 (Int32.toNatClampNeg 0))).1 q1 (Int32.toNatClampNeg 1))).1 q1 (Int32.toNatClampNeg 2))) 85 3 ((pu_wi (pu_wi (pu_wi D 85 0 (D.1 q1 (Int32.toNatClampNeg 0))) 85 1 ((pu_wi D 85 0 (D.1 q1 (Int32.toNatClampNeg 0))).1 q1 (Int32.toNatClampNeg 1))) 85 2 ((pu_wi (pu_wi D 85 0 (D.1 q1 (Int32.toNatClampNeg 0))) 85 1 ((pu_wi D 85 0 (D.1 q1 (Int32.toNatClampNeg 0))).1 q1 (Int32.toNatClampNeg 1))).1 q1 (Int32.toNatClampNeg 2))).1 q1 (Int32.toNatClampNeg 3))).1 q1 (Int32.toNatClampNeg 4))).1 q1 (Int32.toNatClampNeg 5))) 85 6 ((pu_wi (pu_wi (pu_wi (pu_wi (pu_wi (pu_wi D 85 0 (D.1 q1 (Int32.toNatClampNeg 0))) 85 1 ((pu_wi D 85 0 (D.1 q1 (Int32.toNatClampNeg 0))).1 q1 (Int32.toNatClampNeg 1))) 85 2 ((pu_wi (pu_wi D 85 0 (D.1 q1 (Int32.toNatClampNeg 0))) 85 1 ((pu_wi D 85 0 (D.1 q1 (Int32.toNatClampNeg 0))).1 q1 (Int32.toNatClampNeg 1))).1 q1 (Int32.toNatClampNeg 2))) 85 3 ((pu_wi (pu_wi (pu_wi D 85 0 (D.1 q1 (Int32.toNatClampNeg 0))) 85 1 ((pu_wi D 85 0 (D.1 q1 (Int32.toNatClampNeg 0))).1 q1 (Int32.toNatClampNeg 1))) 85 2 ((pu_wi (pu_wi D 85 0 (D.1 q1 (Int32.toNatClampNeg 0))) 85 1 ((pu_wi D 85 0 (D.1 q1 (Int32.toNatClampNeg 0))).1 q1 (Int32.toNatClampNeg 1))).1 q1 (Int32.toNatClampNeg 2))).1 q1 (Int32.toNatClampNeg 3))) 85 4 ((pu_wi (pu_wi (pu_wi (pu_wi D 85 0 (D.1 q1 (Int32.toNatClampNeg 0))) 85 1 ((pu_wi D 85 0 (D.1 q1 (Int32.toNatClampNeg 0))).1 q1 (Int32.toNatClampNeg 1))) 85 2 ((pu_wi (pu_wi D 85 0 (D.1 q1 (Int32.toNatClampNeg 0))) 85 1 ((pu_wi D 85 0 (D.1 q1 (Int32.toNatClampNeg 0))).1 q1 (Int32.toNatClampNeg 1))).1 q1 (Int32.toNatClampNeg 2))) 85 3 ((pu_wi (pu_wi (pu_wi D 85 0 (D.1 q1 (Int32.toNatClampNeg 0))) 85 1 ((pu_wi D 85 0 (D.1 q1 (Int32.toNatClampNeg 0))).1 q1 (Int32.toNatClampNeg 1))) 85 2 ((pu_wi (pu_wi D 85 0 (D.1 q1 (Int32.toNatClampNeg 0))) 85 1 ((pu_wi D 85 0 (D.1 q1 (Int32.toNatClampNeg 0))).1 q1 (Int32.toNatClampNeg 1))).1 q1 (Int32.toNatClampNeg 2))).1 q1 (Int32.toNatClampNeg 3))).1 q1 (Int32.toNatClampNeg 4))) 85 5 ((pu_wi (pu_wi (pu_wi (pu_wi (pu_wi D 85 0 (D.1 q1 (Int32.toNatClampNeg 0))) 85 1 ((pu_wi D 85 0 (D.1 q1 (Int32.toNatClampNeg 0))).1 q1 (Int32.toNatClampNeg 1))) 85 2 ((pu_wi (pu_wi D 85 0 (D.1 q1 (Int32.toNatClampNeg 0))) 85 1 ((pu_wi D 85 0 (D.1 q1 (Int32.toNatClampNeg 0))).1 q1 (Int32.toNatClampNeg 1))).1 q1 (Int32.toNatClampNeg 2))) 85 3 ((pu_wi (pu_wi (pu_wi D 85 0 (D.1 q1 (Int32.toNatClampNeg 0))) 85 1 ((pu_wi D 85 0 (D.1 q1 (Int32.toNatClampNeg 0))).1 q1 (Int32.toNatClampNeg 1))) 85 2 ((pu_wi (pu_wi D 85 0 (D.1 q1 (Int32.toNatClampNeg 0))) 85 1 ((pu_wi D 85 0 (D.1 q1 (Int32.toNatClampNeg 0))).1 q1 (Int32.toNatClampNeg 1))).1 q1 (Int32.toNatClampNeg 2))).1 q1 (Int32.toNatClampNeg 3))) 85 4 ((pu_wi (pu_wi (pu_wi (pu_wi D 85 0 (D.1 q1 (Int32.toNatClampNeg 0))) 85 1 ((pu_wi D 85 0 (D.1 q1 (Int32.toNatClampNeg 0))).1 q1 (Int32.toNatClampNeg 1))) 85 2 ((pu_wi (pu_wi D 85 0 (D.1 q1 (Int32.toNatClampNeg 0))) 85 1 ((pu_wi D 85 0 (D.1 q1 (Int32.toNatClampNeg 0))).1 q1 (Int32.toNatClampNeg 1))).1 q1 (Int32.toNatClampNeg 2))) 85 3 ((pu_wi (pu_wi (pu_wi D 85 0 (D.1 q1 (Int32.toNatClampNeg 0))) 85 1 ((pu_wi D 85 0 (D.1 q1 (Int32.toNatClampNeg 0))).1 q1 (Int32.toNatClampNeg 1))) 85 2 ((pu_wi (pu_wi D 85 0 (D.1 q1 (Int32.toNatClampNeg 0))) 85 1 ((pu_wi D 85 0 (D.1 q1 (Int32.toNatClampNeg 0))).1 q1 (Int32.toNatClampNeg 1))).1 q1 (Int32.toNatClampNeg 2))).1 q1 (Int32.toNatClampNeg 3))).1 q1 (Int32.toNatClampNeg 4))).1 q1 (Int32.toNatClampNeg 5))).1 q1 (Int32.toNatClampNeg 6))).1 q1 (Int32.toNatClampNeg 7))) 85 8 ((pu_wi (pu_wi (pu_wi (pu_wi (pu_wi (pu_wi (pu_wi (pu_wi D 85 0 (D.1 q1 (Int32.toNatClampNeg 0))) 85 1 ((pu_wi D 85 0 (D.1 q1 (Int32.toNatClampNeg 0))).1 q1 (Int32.toNatClampNeg 1))) 85 2 ((pu_wi (pu_wi D 85 0 (D.1 q1 (Int32.toNatClampNeg 0))) 85 1 ((pu_wi D 85 0 (D.1 q1 (Int32.toNatClampNeg 0))).1 q1 (Int32.toNatClampNeg 1))).1 q1 (Int32.toNatClampNeg 2))) 85 3 ((pu_wi (pu_wi (pu_wi D 85 0 (D.1 q1 (Int32.toNatClampNeg 0))) 85 1 ((pu_wi D 85 0 (D.1 q1 (Int32.toNatClampNeg 0))).1 q1 (Int32.toNatClampNeg 1))) 85 2 ((pu_wi (pu_wi D 85 0 (D.1 q1 (Int32.toNatClampNeg 0))) 85 1 ((pu_wi D 85 0 (D.1 q1 (Int32.toNatClampNeg 0))).1 q1 (Int32.toNatClampNeg 1))).1 q1 (Int32.toNatClampNeg 2))).1 q1 (Int32.toNatClampNeg 3))) 85 4 ((pu_wi (pu_wi (pu_wi (pu_wi D 85 0 (D.1 q1 (Int32.toNatClampNeg 0))) 85 1 ((pu_wi D 85 0 (D.1 q1 (Int32.toNatClampNeg 0))).1 q1 (Int32.toNatClampNeg 1))) 85 2 ((pu_wi (pu_wi D 85 0 (D.1 q1 (Int32.toNatClampNeg 0))) 85 1 ((pu_wi D 85 0 (D.1 q1 (Int32.toNatClampNeg 0))).1 q1 (Int32.toNatClampNeg 1))).1 q1 (Int32.toNatClampNeg 2))) 85 3 ((pu_wi (pu_wi (pu_wi D 85 0 (D.1 q1 (Int32.toNatClampNeg 0))) 85 1 ((pu_wi D 85 0 (D.1 q1 (Int32.toNatClampNeg 0))).1 q1 (Int32.toNatClampNeg 1))) 85 2 ((pu_wi (pu_wi D 85 0 (D.1 q1 (Int32.toNatClampNeg 0))) 85 1 ((pu_wi D 85 0 (D.1 q1 (Int32.toNatClampNeg 0))).1 q1 (Int32.toNatClampNeg 1))).1 q1 (Int32.toNatClampNeg 2))).1 q1 (Int32.toNatClampNeg 3))).1 q1 (Int32.toNatClampNeg 4))) 85 5 ((pu_wi (pu_wi (pu_wi (pu_wi (pu_wi D 85 0 (D.1 q1 (Int32.toNatClampNeg 0))) 85 1 ((pu_wi D 85 0 (D.1 q1 (Int32.toNatClampNeg 0))).1 q1 (Int32.toNatClampNeg 1))) 85 2 ((pu_wi (pu_wi D 85 0 (D.1 q1 (Int32.toNatClampNeg 0))) 85 1 ((pu_wi D 85 0 (D.1 q1 (Int32.toNatClampNeg 0))).1 q1 (Int32.toNatClampNeg 1))).1 q1 (Int32.toNatClampNeg 2))) 85 3 ((pu_wi (pu_wi (pu_wi D 85 0 (D.1 q1 (Int32.toNatClampNeg 0))) 85 1 ((pu_wi D 85 0 (D.1 q1 (Int32.toNatClampNeg 0))).1 q1 (Int32.toNatClampNeg 1))) 85 2 ((pu_wi (pu_wi D 85 0 (D.1 q1 (Int32.toNatClampNeg 0))) 85 1 ((pu_wi D 85 0 (D.1 q1 (Int32.toNatClampNeg 0))).1 q1 (Int32.toNatClampNeg 1))).1 q1 (Int32.toNatClampNeg 2))).1 q1 (Int32.toNatClampNeg 3))) 85 4 ((pu_wi (pu_wi (pu_wi (pu_wi D 85 0 (D.1 q1 (Int32.toNatClampNeg 0))) 85 1 ((pu_wi D 85 0 (D.1 q1 (Int32.toNatClampNeg 0))).1 q1 (Int32.toNatClampNeg 1))) 85 2 ((pu_wi (pu_wi D 85 0 (D.1 q1 (Int32.toNatClampNeg 0))) 85 1 ((pu_wi D 85 0 (D.1 q1 (Int32.toNatClampNeg 0))).1 q1 (Int32.toNatClampNeg 1))).1 q1 (Int32.toNatClampNeg 2))) 85 3 ((pu_wi (pu_wi (pu_wi D 85 0 (D.1 q1 (Int32.toNatClampNeg 0))) 85 1 ((pu_wi D 85 0 (D.1 q1 (Int32.toNatClampNeg 0))).1 q1 (Int32.toNatClampNeg 1))) 85 2 ((pu_wi (pu_wi D 85 0 (D.1 q1 (Int32.toNatClampNeg 0))) 85 1 ((pu_wi D 85 0 (D.1 q1 (Int32.toNatClampNeg 0))).1 q1 (Int32.toNatClampNeg 1))).1 q1 (Int32.toNatClampNeg 2))).1 q1 (Int32.toNatClampNeg 3))).1 q1 (Int32.toNatClampNeg 4))).1 q1 (Int32.toNatClampNeg 5))) 85 6 ((pu_wi (pu_wi (pu_wi (pu_wi (pu_wi (pu_wi D 85 0 (D.1 q1 (Int32.toNatClampNeg 0))) 85 1 ((pu_wi D 85 0 (D.1 q1 (Int32.toNatClampNeg 0))).1 q1 (Int32.toNatClampNeg 1))) 85 2 ((pu_wi (pu_wi D 85 0 (D.1 q1 (Int32.toNatClampNeg 0))) 85 1 ((pu_wi D 85 0 (D.1 q1 (Int32.toNatClampNeg 0))).1 q1 (Int32.toNatClampNeg 1))).1 q1 (Int32.toNatClampNeg 2))) 85 3 ((pu_wi (pu_wi (pu_wi D 85 0 (D.1 q1 (Int32.toNatClampNeg 0))) 85 1 ((pu_wi D 85 0 (D.1 q1 (Int32.toNatClampNeg 0))).1 q1 (Int32.toNatClampNeg 1))) 85 2 ((pu_wi (pu_wi D 85 0 (D.1 q1 (Int32.toNatClampNeg 0))) 85 1 ((pu_wi D 85 0 (D.1 q1 (Int32.toNatClampNeg 0))).1 q1 (Int32.toNatClampNeg 1))).1 q1 (Int32.toNatClampNeg 2))).1 q1 (Int32.toNatClampNeg 3))) 85 4 ((pu_wi (pu_wi (pu_wi (pu_wi D 85 0 (D.1 q1 (Int32.toNatClampNeg 0))) 85 1 ((pu_wi D 85 0 (D.1 q1 (Int32.toNatClampNeg 0))).1 q1 (Int32.toNatClampNeg 1))) 85 2 ((pu_wi (pu_wi D 85 0 (D.1 q1 (Int32.toNatClampNeg 0))) 85 1 ((pu_wi D 85 0 (D.1 q1 (Int32.toNatClampNeg 0))).1 q1 (Int32.toNatClampNeg 1))).1 q1 (Int32.toNatClampNeg 2))) 85 3 ((pu_wi (pu_wi (pu_wi D 85 0 (D.1 q1 (Int32.toNatClampNeg 0))) 85 1 ((pu_wi D 85 0 (D.1 q1 (Int32.toNatClampNeg 0))).1 q1 (Int32.toNatClampNeg 1))) 85 2 ((pu_wi (pu_wi D 85 0 (D.1 q1 (Int32.toNatClampNeg 0))) 85 1 ((pu_wi D 85 0 (D.1 q1 (Int32.toNatClampNeg 0))).1 q1 (Int32.toNatClampNeg 1))).1 q1 (Int32.toNatClampNeg 2))).1 q1 (Int32.toNatClampNeg 3))).1 q1 (Int32.toNatClampNeg 4))) 85 5 ((pu_wi (pu_wi (pu_wi (pu_wi (pu_wi D 85 0 (D.1 q1 (Int32.toNatClampNeg 0))) 85 1 ((pu_wi D 85 0 (D.1 q1 (Int32.toNatClampNeg 0))).1 q1 (Int32.toNatClampNeg 1))) 85 2 ((pu_wi (pu_wi D 85 0 (D.1 q1 (Int32.toNatClampNeg 0))) 85 1 ((pu_wi D 85 0 (D.1 q1 (Int32.toNatClampNeg 0))).1 q1 (Int32.toNatClampNeg 1))).1 q1 (Int32.toNatClampNeg 2))) 85 3 ((pu_wi (pu_wi (pu_wi D 85 0 (D.1 q1 (Int32.toNatClampNeg 0))) 85 1 ((pu_wi D 85 0 (D.1 q1 (Int32.toNatClampNeg 0))).1 q1 (Int32.toNatClampNeg 1))) 85 2 ((pu_wi (pu_wi D 85 0 (D.1 q1 (Int32.toNatClampNeg 0))) 85 1 ((pu_wi D 85 0 (D.1 q1 (Int32.toNatClampNeg 0))).1 q1 (Int32.toNatClampNeg 1))).1 q1 (Int32.toNatClampNeg 2))).1 q1 (Int32.toNatClampNeg 3))) 85 4 ((pu_wi (pu_wi (pu_wi (pu_wi D 85 0 (D.1 q1 (Int32.toNatClampNeg 0))) 85 1 ((pu_wi D 85 0 (D.1 q1 (Int32.toNatClampNeg 0))).1 q1 (Int32.toNatClampNeg 1))) 85 2 ((pu_wi (pu_wi D 85 0 (D.1 q1 (Int32.toNatClampNeg 0))) 85 1 ((pu_wi D 85 0 (D.1 q1 (Int32.toNatClampNeg 0))).1 q1 (Int32.toNatClampNeg 1))).1 q1 (Int32.toNatClampNeg 2))) 85 3 ((pu_wi (pu_wi (pu_wi D 85 0 (D.1 q1 (Int32.toNatClampNeg 0))) 85 1 ((pu_wi D 85 0 (D.1 q1 (Int32.toNatClampNeg 0))).1 q1 (Int32.toNatClampNeg 1))) 85 2 ((pu_wi (pu_wi D 85 0 (D.1 q1 (Int32.toNatClampNeg 0))) 85 1 ((pu_wi D 85 0 (D.1 q1 (Int32.toNatClampNeg 0))).1 q1 (Int32.toNatClampNeg 1))).1 q1 (Int32.toNatClampNeg 2))).1 q1 (Int32.toNatClampNeg 3))).1 q1 (Int32.toNatClampNeg 4))).1 q1 (Int32.toNatClampNeg 5))).1 q1 (Int32.toNatClampNeg 6))) 85 7 ((pu_wi (pu_wi (pu_wi (pu_wi (pu_wi (pu_wi (pu_wi D 85 0 (D.1 q1 (Int32.toNatClampNeg 0))) 85 1 ((pu_wi D 85 0 (D.1 q1 (Int32.toNatClampNeg 0))).1 q1 (Int32.toNatClampNeg 1))) 85 2 ((pu_wi (pu_wi D 85 0 (D.1 q1 (Int32.toNatClampNeg 0))) 85 1 ((pu_wi D 85 0 (D.1 q1 (Int32.toNatClampNeg 0))).1 q1 (Int32.toNatClampNeg 1))).1 q1 (Int32.toNatClampNeg 2))) 85 3 ((pu_wi (pu_wi (pu_wi D 85 0 (D.1 q1 (Int32.toNatClampNeg 0))) 85 1 ((pu_wi D 85 0 (D.1 q1 (Int32.toNatClampNeg 0))).1 q1 (Int32.toNatClampNeg 1))) 85 2 ((pu_wi (pu_wi D 85 0 (D.1 q1 (Int32.toNatClampNeg 0))) 85 1 ((pu_wi D 85 0 (D.1 q1 (Int32.toNatClampNeg 0))).1 q1 (Int32.toNatClampNeg 1))).1 q1 (Int32.toNatClampNeg 2))).1 q1 (Int32.toNatClampNeg 3))) 85 4 ((pu_wi (pu_wi (pu_wi (pu_wi D 85 0 (D.1 q1 (Int32.toNatClampNeg 0))) 85 1 ((pu_wi D 85 0 (D.1 q1 (Int32.toNatClampNeg 0))).1 q1 (Int32.toNatClampNeg 1))) 85 2 ((pu_wi (pu_wi D 85 0 (D.1 q1 (Int32.toNatClampNeg 0))) 85 1 ((pu_wi D 85 0 (D.1 q1 (Int32.toNatClampNeg 0))).1 q1 (Int32.toNatClampNeg 1))).1 q1 (Int32.toNatClampNeg 2))) 85 3 ((pu_wi (pu_wi (pu_wi D 85 0 (D.1 q1 (Int32.toNatClampNeg 0))) 85 1 ((pu_wi D 85 0 (D.1 q1 (Int32.toNatClampNeg 0))).1 q1 (Int32.toNatClampNeg 1))) 85 2 ((pu_wi (pu_wi D 85 0 (D.1 q1 (Int32.toNatClampNeg 0))) 85 1 ((pu_wi D 85 0 (D.1 q1 (Int32.toNatClampNeg 0))).1 q1 (Int32.toNatClampNeg 1))).1 q1 (Int32.toNatClampNeg 2))).1 q1 (Int32.toNatClampNeg 3))).1 q1 (Int32.toNatClampNeg 4))) 85 5 ((pu_wi (pu_wi (pu_wi (pu_wi (pu_wi D 85 0 (D.1 q1 (Int32.toNatClampNeg 0))) 85 1 ((pu_wi D 85 0 (D.1 q1 (Int32.toNatClampNeg 0))).1 q1 (Int32.toNatClampNeg 1))) 85 2 ((pu_wi (pu_wi D 85 0 (D.1 q1 (Int32.toNatClampNeg 0))) 85 1 ((pu_wi D 85 0 (D.1 q1 (Int32.toNatClampNeg 0))).1 q1 (Int32.toNatClampNeg 1))).1 q1 (Int32.toNatClampNeg 2))) 85 3 ((pu_wi (pu_wi (pu_wi D 85 0 (D.1 q1 (Int32.toNatClampNeg 0))) 85 1 ((pu_wi D 85 0 (D.1 q1 (Int32.toNatClampNeg 0))).1 q1 (Int32.toNatClampNeg 1))) 85 2 ((pu_wi (pu_wi D 85 0 (D.1 q1 (Int32.toNatClampNeg 0))) 85 1 ((pu_wi D 85 0 (D.1 q1 (Int32.toNatClampNeg 0))).1 q1 (Int32.toNatClampNeg 1))).1 q1 (Int32.toNatClampNeg 2))).1 q1 (Int32.toNatClampNeg 3))) 85 4 ((pu_wi (pu_wi (pu_wi (pu_wi D 85 0 (D.1 q1 (Int32.toNatClampNeg 0))) 85 1 ((pu_wi D 85 0 (D.1 q1 (Int32.toNatClampNeg 0))).1 q1 (Int32.toNatClampNeg 1))) 85 2 ((pu_wi (pu_wi D 85 0 (D.1 q1 (Int32.toNatClampNeg 0))) 85 1 ((pu_wi D 85 0 (D.1 q1 (Int32.toNatClampNeg 0))).1 q1 (Int32.toNatClampNeg 1))).1 q1 (Int32.toNatClampNeg 2))) 85 3 ((pu_wi (pu_wi (pu_wi D 85 0 (D.1 q1 (Int32.toNatClampNeg 0))) 85 1 ((pu_wi D 85 0 (D.1 q1 (Int32.toNatClampNeg 0))).1 q1 (Int32.toNatClampNeg 1))) 85 2 ((pu_wi (pu_wi D 85 0 (D.1 q1 (Int32.toNatClampNeg 0))) 85 1 ((pu_wi D 85 0 (D.1 q1 (Int32.toNatClampNeg 0))).1 q1 (Int32.toNatClampNeg 1))).1 q1 (Int32.toNatClampNeg 2))).1 q1 (Int32.toNatClampNeg 3))).1 q1 (Int32.toNatClampNeg 4))).1 q1 (Int32.toNatClampNeg 5))) 85 6 ((pu_wi (pu_wi (pu_wi (pu_wi (pu_wi (pu_wi D 85 0 (D.1 q1 (Int32.toNatClampNeg 0))) 85 1 ((pu_wi D 85 0 (D.1 q1 (Int32.toNatClampNeg 0))).1 q1 (Int32.toNatClampNeg 1))) 85 2 ((pu_wi (pu_wi D 85 0 (D.1 q1 (Int32.toNatClampNeg 0))) 85 1 ((pu_wi D 85 0 (D.1 q1 (Int32.toNatClampNeg 0))).1 q1 (Int32.toNatClampNeg 1))).1 q1 (Int32.toNatClampNeg 2))) 85 3 ((pu_wi (pu_wi (pu_wi D 85 0 (D.1 q1 (Int32.toNatClampNeg 0))) 85 1 ((pu_wi D 85 0 (D.1 q1 (Int32.toNatClampNeg 0))).1 q1 (Int32.toNatClampNeg 1))) 85 2 ((pu_wi (pu_wi D 85 0 (D.1 q1 (Int32.toNatClampNeg 0))) 85 1 ((pu_wi D 85 0 (D.1 q1 (Int32.toNatClampNeg 0))).1 q1 (Int32.toNatClampNeg 1))).1 q1 (Int32.toNatClampNeg 2))).1 q1 (Int32.toNatClampNeg 3))) 85 4 ((pu_wi (pu_wi (pu_wi (pu_wi D 85 0 (D.1 q1 (Int32.toNatClampNeg 0))) 85 1 ((pu_wi D 85 0 (D.1 q1 (Int32.toNatClampNeg 0))).1 q1 (Int32.toNatClampNeg 1))) 85 2 ((pu_wi (pu_wi D 85 0 (D.1 q1 (Int32.toNatClampNeg 0))) 85 1 ((pu_wi D 85 0 (D.1 q1 (Int32.toNatClampNeg 0))).1 q1 (Int32.toNatClampNeg 1))).1 q1 (Int32.toNatClampNeg 2))) 85 3 ((pu_wi (pu_wi (pu_wi D 85 0 (D.1 q1 (Int32.toNatClampNeg 0))) 85 1 ((pu_wi D 85 0 (D.1 q1 (Int32.toNatClampNeg 0))).1 q1 (Int32.toNatClampNeg 1))) 85 2 ((pu_wi (pu_wi D 85 0 (D.1 q1 (Int32.toNatClampNeg 0))) 85 1 ((pu_wi D 85 0 (D.1 q1 (Int32.toNatClampNeg 0))).1 q1 (Int32.toNatClampNeg 1))).1 q1 (Int32.toNatClampNeg 2))).1 q1 (Int32.toNatClampNeg 3))).1 q1 (Int32.toNatClampNeg 4))) 85 5 ((pu_wi (pu_wi (pu_wi (pu_wi (pu_wi D 85 0 (D.1 q1 (Int32.toNatClampNeg 0))) 85 1 ((pu_wi D 85 0 (D.1 q1 (Int32.toNatClampNeg 0))).1 q1 (Int32.toNatClampNeg 1))) 85 2 ((pu_wi (pu_wi D 85 0 (D.1 q1 (Int32.toNatClampNeg 0))) 85 1 ((pu_wi D 85 0 (D.1 q1 (Int32.toNatClampNeg 0))).1 q1 (Int32.toNatClampNeg 1))).1 q1 (Int32.toNatClampNeg 2))) 85 3 ((pu_wi (pu_wi (pu_wi D 85 0 (D.1 q1 (Int32.toNatClampNeg 0))) 85 1 ((pu_wi D 85 0 (D.1 q1 (Int32.toNatClampNeg 0))).1 q1 (Int32.toNatClampNeg 1))) 85 2 ((pu_wi (pu_wi D 85 0 (D.1 q1 (Int32.toNatClampNeg 0))) 85 1 ((pu_wi D 85 0 (D.1 q1 (Int32.toNatClampNeg 0))).1 q1 (Int32.toNatClampNeg 1))).1 q1 (Int32.toNatClampNeg 2))).1 q1 (Int32.toNatClampNeg 3))) 85 4 ((pu_wi (pu_wi (pu_wi (pu_wi D 85 0 (D.1 q1 (Int32.toNatClampNeg 0))) 85 1 ((pu_wi D 85 0 (D.1 q1 (Int32.toNatClampNeg 0))).1 q1 (Int32.toNatClampNeg 1))) 85 2 ((pu_wi (pu_wi D 85 0 (D.1 q1 (Int32.toNatClampNeg 0))) 85 1 ((pu_wi D 85 0 (D.1 q1 (Int32.toNatClampNeg 0))).1 q1 (Int32.toNatClampNeg 1))).1 q1 (Int32.toNatClampNeg 2))) 85 3 ((pu_wi (pu_wi (pu_wi D 85 0 (D.1 q1 (Int32.toNatClampNeg 0))) 85 1 ((pu_wi D 85 0 (D.1 q1 (Int32.toNatClampNeg 0))).1 q1 (Int32.toNatClampNeg 1))) 85 2 ((pu_wi (pu_wi D 85 0 (D.1 q1 (Int32.toNatClampNeg 0))) 85 1 ((pu_wi D 85 0 (D.1 q1 (Int32.toNatClampNeg 0))).1 q1 (Int32.toNatClampNeg 1))).1 q1 (Int32.toNatClampNeg 2))).1 q1 (Int32.toNatClampNeg 3))).1 q1 (Int32.toNatClampNeg 4))).1 q1 (Int32.toNatClampNeg 5))).1 q1 (Int32.toNatClampNeg 6))).1 q1 (Int32.toNatClampNeg 7))).1 q1 (Int32.toNatClampNeg 8))) 85 9 ((pu_wi (pu_wi (pu_wi (pu_wi (pu_wi (pu_wi (pu_wi (pu_wi (pu_wi D 85 0 (D.1 q1 (Int32.toNatClampNeg 0))) 85 1 ((pu_wi D 85 0 (D.1 q1 (Int32.toNatClampNeg 0))).1 q1 (Int32.toNatClampNeg 1))) 85 2 ((pu_wi (pu_wi D 85 0 (D.1 q1 (Int32.toNatClampNeg 0))) 85 1 ((pu_wi D 85 0 (D.1 q1 (Int32.toNatClampNeg 0))).1 q1 (Int32.toNatClampNeg 1))).1 q1 (Int32.toNatClampNeg 2))) 85 3 ((pu_wi (pu_wi (pu_wi D 85 0 (D.1 q1 (Int32.toNatClampNeg 0))) 85 1 ((pu_wi D 85 0 (D.1 q1 (Int32.toNatClampNeg 0))).1 q1 (Int32.toNatClampNeg 1))) 85 2 ((pu_wi (pu_wi D 85 0 (D.1 q1 (Int32.toNatClampNeg 0))) 85 1 ((pu_wi D 85 0 (D.1 q1 (Int32.toNatClampNeg 0))).1 q1 (Int32.toNatClampNeg 1))).1 q1 (Int32.toNatClampNeg 2))).1 q1 (Int32.toNatClampNeg 3))) 85 4 ((pu_wi (pu_wi (pu_wi (pu_wi D 85 0 (D.1 q1 (Int32.toNatClampNeg 0))) 85 1 ((pu_wi D 85 0 (D.1 q1 (Int32.toNatClampNeg 0))).1 q1 (Int32.toNatClampNeg 1))) 85 2 ((pu_wi (pu_wi D 85 0 (D.1 q1 (Int32.toNatClampNeg 0))) 85 1 ((pu_wi D 85 0 (D.1 q1 (Int32.toNatClampNeg 0))).1 q1 (Int32.toNatClampNeg 1))).1 q1 (Int32.toNatClampNeg 2))) 85 3 ((pu_wi (pu_wi (pu_wi D 85 0 (D.1 q1 (Int32.toNatClampNeg 0))) 85 1 ((pu_wi D 85 0 (D.1 q1 (Int32.toNatClampNeg 0))).1 q1 (Int32.toNatClampNeg 1))) 85 2 ((pu_wi (pu_wi D 85 0 (D.1 q1 (Int32.toNatClampNeg 0))) 85 1 ((pu_wi D 85 0 (D.1 q1 (Int32.toNatClampNeg 0))).1 q1 (Int32.toNatClampNeg 1))).1 q1 (Int32.toNatClampNeg 2))).1 q1 (Int32.toNatClampNeg 3))).1 q1 (Int32.toNatClampNeg 4))) 85 5 ((pu_wi (pu_wi (pu_wi (pu_wi (pu_wi D 85 0 (D.1 q1 (Int32.toNatClampNeg 0))) 85 1 ((pu_wi D 85 0 (D.1 q1 (Int32.toNatClampNeg 0))).1 q1 (Int32.toNatClampNeg 1))) 85 2 ((pu_wi (pu_wi D 85 0 (D.1 q1 (Int32.toNatClampNeg 0))) 85 1 ((pu_wi D 85 0 (D.1 q1 (Int32.toNatClampNeg 0))).1 q1 (Int32.toNatClampNeg 1))).1 q1 (Int32.toNatClampNeg 2))) 85 3 ((pu_wi (pu_wi (pu_wi D 85 0 (D.1 q1 (Int32.toNatClampNeg 0))) 85 1 ((pu_wi D 85 0 (D.1 q1 (Int32.toNatClampNeg 0))).1 q1 (Int32.toNatClampNeg 1))) 85 2 ((pu_wi (pu_wi D 85 0 (D.1 q1 (Int32.toNatClampNeg 0))) 85 1 ((pu_wi D 85 0 (D.1 q1 (Int32.toNatClampNeg 0))).1 q1 (Int32.toNatClampNeg 1))).1 q1 (Int32.toNatClampNeg 2))).1 q1 (Int32.toNatClampNeg 3))) 85 4 ((pu_wi (pu_wi (pu_wi (pu_wi D 85 0 (D.1 q1 (Int32.toNatClampNeg 0))) 85 1 ((pu_wi D 85 0 (D.1 q1 (Int32.toNatClampNeg 0))).1 q1 (Int32.toNatClampNeg 1))) 85 2 ((pu_wi (pu_wi D 85 0 (D.1 q1 (Int32.toNatClampNeg 0))) 85 1 ((pu_wi D 85 0 (D.1 q1 (Int32.toNatClampNeg 0))).1 q1 (Int32.toNatClampNeg 1))).1 q1 (Int32.toNatClampNeg 2))) 85 3 ((pu_wi (pu_wi (pu_wi D 85 0 (D.1 q1 (Int32.toNatClampNeg 0))) 85 1 ((pu_wi D 85 0 (D.1 q1 (Int32.toNatClampNeg 0))).1 q1 (Int32.toNatClampNeg 1))) 85 2 ((pu_wi (pu_wi D 85 0 (D.1 q1 (Int32.toNatClampNeg 0))) 85 1 ((pu_wi D 85 0 (D.1 q1 (Int32.toNatClampNeg 0))).1 q1 (Int32.toNatClampNeg 1))).1 q1 (Int32.toNatClampNeg 2))).1 q1 (Int32.toNatClampNeg 3))).1 q1 (Int32.toNatClampNeg 4))).1 q1 (Int32.toNatClampNeg 5))) 85 6 ((pu_wi (pu_wi (pu_wi (pu_wi (pu_wi (pu_wi D 85 0 (D.1 q1 (Int32.toNatClampNeg 0))) 85 1 ((pu_wi D 85 0 (D.1 q1 (Int32.toNatClampNeg 0))).1 q1 (Int32.toNatClampNeg 1))) 85 2 ((pu_wi (pu_wi D 85 0 (D.1 q1 (Int32.toNatClampNeg 0))) 85 1 ((pu_wi D 85 0 (D.1 q1 (Int32.toNatClampNeg 0))).1 q1 (Int32.toNatClampNeg 1))).1 q1 (Int32.toNatClampNeg 2))) 85 3 ((pu_wi (pu_wi (pu_wi D 85 0 (D.1 q1 (Int32.toNatClampNeg 0))) 85 1 ((pu_wi D 85 0 (D.1 q1 (Int32.toNatClampNeg 0))).1 q1 (Int32.toNatClampNeg 1))) 85 2 ((pu_wi (pu_wi D 85 0 (D.1 q1 (Int32.toNatClampNeg 0))) 85 1 ((pu_wi D 85 0 (D.1 q1 (Int32.toNatClampNeg 0))).1 q1 (Int32.toNatClampNeg 1))).1 q1 (Int32.toNatClampNeg 2))).1 q1 (Int32.toNatClampNeg 3))) 85 4 ((pu_wi (pu_wi (pu_wi (pu_wi D 85 0 (D.1 q1 (Int32.toNatClampNeg 0))) 85 1 ((pu_wi D 85 0 (D.1 q1 (Int32.toNatClampNeg 0))).1 q1 (Int32.toNatClampNeg 1))) 85 2 ((pu_wi (pu_wi D 85 0 (D.1 q1 (Int32.toNatClampNeg 0))) 85 1 ((pu_wi D 85 0 (D.1 q1 (Int32.toNatClampNeg 0))).1 q1 (Int32.toNatClampNeg 1))).1 q1 (Int32.toNatClampNeg 2))) 85 3 ((pu_wi (pu_wi (pu_wi D 85 0 (D.1 q1 (Int32.toNatClampNeg 0))) 85 1 ((pu_wi D 85 0 (D.1 q1 (Int32.toNatClampNeg 0))).1 q1 (Int32.toNatClampNeg 1))) 85 2 ((pu_wi (pu_wi D 85 0 (D.1 q1 (Int32.toNatClampNeg 0))) 85 1 ((pu_wi D 85 0 (D.1 q1 (Int32.toNatClampNeg 0))).1 q1 (Int32.toNatClampNeg 1))).1 q1 (Int32.toNatClampNeg 2))).1 q1 (Int32.toNatClampNeg 3))).1 q1 (Int32.toNatClampNeg 4))) 85 5 ((pu_wi (pu_wi (pu_wi (pu_wi (pu_wi D 85 0 (D.1 q1 (Int32.toNatClampNeg 0))) 85 1 ((pu_wi D 85 0 (D.1 q1 (Int32.toNatClampNeg 0))).1 q1 (Int32.toNatClampNeg 1))) 85 2 ((pu_wi (pu_wi D 85 0 (D.1 q1 (Int32.toNatClampNeg 0))) 85 1 ((pu_wi D 85 0 (D.1 q1 (Int32.toNatClampNeg 0))).1 q1 (Int32.toNatClampNeg 1))).1 q1 (Int32.toNatClampNeg 2))) 85 3 ((pu_wi (pu_wi (pu_wi D 85 0 (D.1 q1 (Int32.toNatClampNeg 0))) 85 1 ((pu_wi D 85 0 (D.1 q1 (Int32.toNatClampNeg 0))).1 q1 (Int32.toNatClampNeg 1))) 85 2 ((pu_wi (pu_wi D 85 0 (D.1 q1 (Int32.toNatClampNeg 0))) 85 1 ((pu_wi D 85 0 (D.1 q1 (Int32.toNatClampNeg 0))).1 q1 (Int32.toNatClampNeg 1))).1 q1 (Int32.toNatClampNeg 2))).1 q1 (Int32.toNatClampNeg 3))) 85 4 ((pu_wi (pu_wi (pu_wi (pu_wi D 85 0 (D.1 q1 (Int32.toNatClampNeg 0))) 85 1 ((pu_wi D 85 0 (D.1 q1 (Int32.toNatClampNeg 0))).1 q1 (Int32.toNatClampNeg 1))) 85 2 ((pu_wi (pu_wi D 85 0 (D.1 q1 (Int32.toNatClampNeg 0))) 85 1 ((pu_wi D 85 0 (D.1 q1 (Int32.toNatClampNeg 0))).1 q1 (Int32.toNatClampNeg 1))).1 q1 (Int32.toNatClampNeg 2))) 85 3 ((pu_wi (pu_wi (pu_wi D 85 0 (D.1 q1 (Int32.toNatClampNeg 0))) 85 1 ((pu_wi D 85 0 (D.1 q1 (Int32.toNatClampNeg 0))).1 q1 (Int32.toNatClampNeg 1))) 85 2 ((pu_wi (pu_wi D 85 0 (D.1 q1 (Int32.toNatClampNeg 0))) 85 1 ((pu_wi D 85 0 (D.1 q1 (Int32.toNatClampNeg 0))).1 q1 (Int32.toNatClampNeg 1))).1 q1 (Int32.toNatClampNeg 2))).1 q1 (Int32.toNatClampNeg 3))).1 q1 (Int32.toNatClampNeg 4))).1 q1 (Int32.toNatClampNeg 5))).1 q1 (Int32.toNatClampNeg 6))) 85 7 ((pu_wi (pu_wi (pu_wi (pu_wi (pu_wi (pu_wi (pu_wi D 85 0 (D.1 q1 (Int32.toNatClampNeg 0))) 85 1 ((pu_wi D 85 0 (D.1 q1 (Int32.toNatClampNeg 0))).1 q1 (Int32.toNatClampNeg 1))) 85 2 ((pu_wi (pu_wi D 85 0 (D.1 q1 (Int32.toNatClampNeg 0))) 85 1 ((pu_wi D 85 0 (D.1 q1 (Int32.toNatClampNeg 0))).1 q1 (Int32.toNatClampNeg 1))).1 q1 (Int32.toNatClampNeg 2))) 85 3 ((pu_wi (pu_wi (pu_wi D 85 0 (D.1 q1 (Int32.toNatClampNeg 0))) 85 1 ((pu_wi D 85 0 (D.1 q1 (Int32.toNatClampNeg 0))).1 q1 (Int32.toNatClampNeg 1))) 85 2 ((pu_wi (pu_wi D 85 0 (D.1 q1 (Int32.toNatClampNeg 0))) 85 1 ((pu_wi D 85 0 (D.1 q1 (Int32.toNatClampNeg 0))).1 q1 (Int32.toNatClampNeg 1))).1 q1 (Int32.toNatClampNeg 2))).1 q1 (Int32.toNatClampNeg 3))) 85 4 ((pu_wi (pu_wi (pu_wi (pu_wi D 85 0 (D.1 q1 (Int32.toNatClampNeg 0))) 85 1 ((pu_wi D 85 0 (D.1 q1 (Int32.toNatClampNeg 0))).1 q1 (Int32.toNatClampNeg 1))) 85 2 ((pu_wi (pu_wi D 85 0 (D.1 q1 (Int32.toNatClampNeg 0))) 85 1 ((pu_wi D 85 0 (D.1 q1 (Int32.toNatClampNeg 0))).1 q1 (Int32.toNatClampNeg 1))).1 q1 (Int32.toNatClampNeg 2))) 85 3 ((pu_wi (pu_wi (pu_wi D 85 0 (D.1 q1 (Int32.toNatClampNeg 0))) 85 1 ((pu_wi D 85 0 (D.1 q1 (Int32.toNatClampNeg 0))).1 q1 (Int32.toNatClampNeg 1))) 85 2 ((pu_wi (pu_wi D 85 0 (D.1 q1 (Int32.toNatClampNeg 0))) 85 1 ((pu_wi D 85 0 (D.1 q1 (Int32.toNatClampNeg 0))).1 q1 (Int32.toNatClampNeg 1))).1 q1 (Int32.toNatClampNeg 2))).1 q1 (Int32.toNatClampNeg 3))).1 q1 (Int32.toNatClampNeg 4))) 85 5 ((pu_wi (pu_wi (pu_wi (pu_wi (pu_wi D 85 0 (D.1 q1 (Int32.toNatClampNeg 0))) 85 1 ((pu_wi D 85 0 (D.1 q1 (Int32.toNatClampNeg 0))).1 q1 (Int32.toNatClampNeg 1))) 85 2 ((pu_wi (pu_wi D 85 0 (D.1 q1 (Int32.toNatClampNeg 0))) 85 1 ((pu_wi D 85 0 (D.1 q1 (Int32.toNatClampNeg 0))).1 q1 (Int32.toNatClampNeg 1))).1 q1 (Int32.toNatClampNeg 2))) 85 3 ((pu_wi (pu_wi (pu_wi D 85 0 (D.1 q1 (Int32.toNatClampNeg 0))) 85 1 ((pu_wi D 85 0 (D.1 q1 (Int32.toNatClampNeg 0))).1 q1 (Int32.toNatClampNeg 1))) 85 2 ((pu_wi (pu_wi D 85 0 (D.1 q1 (Int32.toNatClampNeg 0))) 85 1 ((pu_wi D 85 0 (D.1 q1 (Int32.toNatClampNeg 0))).1 q1 (Int32.toNatClampNeg 1))).1 q1 (Int32.toNatClampNeg 2))).1 q1 (Int32.toNatClampNeg 3))) 85 4 ((pu_wi (pu_wi (pu_wi (pu_wi D 85 0 (D.1 q1 (Int32.toNatClampNeg 0))) 85 1 ((pu_wi D 85 0 (D.1 q1 (Int32.toNatClampNeg 0))).1 q1 (Int32.toNatClampNeg 1))) 85 2 ((pu_wi (pu_wi D 85 0 (D.1 q1 (Int32.toNatClampNeg 0))) 85 1 ((pu_wi D 85 0 (D.1 q1 (Int32.toNatClampNeg 0))).1 q1 (Int32.toNatClampNeg 1))).1 q1 (Int32.toNatClampNeg 2))) 85 3 ((pu_wi (pu_wi (pu_wi D 85 0 (D.1 q1 (Int32.toNatClampNeg 0))) 85 1 ((pu_wi D 85 0 (D.1 q1 (Int32.toNatClampNeg 0))).1 q1 (Int32.toNatClampNeg 1))) 85 2 ((pu_wi (pu_wi D 85 0 (D.1 q1 (Int32.toNatClampNeg 0))) 85 1 ((pu_wi D 85 0 (D.1 q1 (Int32.toNatClampNeg 0))).1 q1 (Int32.toNatClampNeg 1))).1 q1 (Int32.toNatClampNeg 2))).1 q1 (Int32.toNatClampNeg 3))).1 q1 (Int32.toNatClampNeg 4))).1 q1 (Int32.toNatClampNeg 5))) 85 6 ((pu_wi (pu_wi (pu_wi (pu_wi (pu_wi (pu_wi D 85 0 (D.1 q1 (Int32.toNatClampNeg 0))) 85 1 ((pu_wi D 85 0 (D.1 q1 (Int32.toNatClampNeg 0))).1 q1 (Int32.toNatClampNeg 1))) 85 2 ((pu_wi (pu_wi D 85 0 (D.1 q1 (Int32.toNatClampNeg 0))) 85 1 ((pu_wi D 85 0 (D.1 q1 (Int32.toNatClampNeg 0))).1 q1 (Int32.toNatClampNeg 1))).1 q1 (Int32.toNatClampNeg 2))) 85 3 ((pu_wi (pu_wi (pu_wi D 85 0 (D.1 q1 (Int32.toNatClampNeg 0))) 85 1 ((pu_wi D 85 0 (D.1 q1 (Int32.toNatClampNeg 0))).1 q1 (Int32.toNatClampNeg 1))) 85 2 ((pu_wi (pu_wi D 85 0 (D.1 q1 (Int32.toNatClampNeg 0))) 85 1 ((pu_wi D 85 0 (D.1 q1 (Int32.toNatClampNeg 0))).1 q1 (Int32.toNatClampNeg 1))).1 q1 (Int32.toNatClampNeg 2))).1 q1 (Int32.toNatClampNeg 3))) 85 4 ((pu_wi (pu_wi (pu_wi (pu_wi D 85 0 (D.1 q1 (Int32.toNatClampNeg 0))) 85 1 ((pu_wi D 85 0 (D.1 q1 (Int32.toNatClampNeg 0))).1 q1 (Int32.toNatClampNeg 1))) 85 2 ((pu_wi (pu_wi D 85 0 (D.1 q1 (Int32.toNatClampNeg 0))) 85 1 ((pu_wi D 85 0 (D.1 q1 (Int32.toNatClampNeg 0))).1 q1 (Int32.toNatClampNeg 1))).1 q1 (Int32.toNatClampNeg 2))) 85 3 ((pu_wi (pu_wi (pu_wi D 85 0 (D.1 q1 (Int32.toNatClampNeg 0))) 85 1 ((pu_wi D 85 0 (D.1 q1 (Int32.toNatClampNeg 0))).1 q1 (Int32.toNatClampNeg 1))) 85 2 ((pu_wi (pu_wi D 85 0 (D.1 q1 (Int32.toNatClampNeg 0))) 85 1 ((pu_wi D 85 0 (D.1 q1 (Int32.toNatClampNeg 0))).1 q1 (Int32.toNatClampNeg 1))).1 q1 (Int32.toNatClampNeg 2))).1 q1 (Int32.toNatClampNeg 3))).1 q1 (Int32.toNatClampNeg 4))) 85 5 ((pu_wi (pu_wi (pu_wi (pu_wi (pu_wi D 85 0 (D.1 q1 (Int32.toNatClampNeg 0))) 85 1 ((pu_wi D 85 0 (D.1 q1 (Int32.toNatClampNeg 0))).1 q1 (Int32.toNatClampNeg 1))) 85 2 ((pu_wi (pu_wi D 85 0 (D.1 q1 (Int32.toNatClampNeg 0))) 85 1 ((pu_wi D 85 0 (D.1 q1 (Int32.toNatClampNeg 0))).1 q1 (Int32.toNatClampNeg 1))).1 q1 (Int32.toNatClampNeg 2))) 85 3 ((pu_wi (pu_wi (pu_wi D 85 0 (D.1 q1 (Int32.toNatClampNeg 0))) 85 1 ((pu_wi D 85 0 (D.1 q1 (Int32.toNatClampNeg 0))).1 q1 (Int32.toNatClampNeg 1))) 85 2 ((pu_wi (pu_wi D 85 0 (D.1 q1 (Int32.toNatClampNeg 0))) 85 1 ((pu_wi D 85 0 (D.1 q1 (Int32.toNatClampNeg 0))).1 q1 (Int32.toNatClampNeg 1))).1 q1 (Int32.toNatClampNeg 2))).1 q1 (Int32.toNatClampNeg 3))) 85 4 ((pu_wi (pu_wi (pu_wi (pu_wi D 85 0 (D.1 q1 (Int32.toNatClampNeg 0))) 85 1 ((pu_wi D 85 0 (D.1 q1 (Int32.toNatClampNeg 0))).1 q1 (Int32.toNatClampNeg 1))) 85 2 ((pu_wi (pu_wi D 85 0 (D.1 q1 (Int32.toNatClampNeg 0))) 85 1 ((pu_wi D 85 0 (D.1 q1 (Int32.toNatClampNeg 0))).1 q1 (Int32.toNatClampNeg 1))).1 q1 (Int32.toNatClampNeg 2))) 85 3 ((pu_wi (pu_wi (pu_wi D 85 0 (D.1 q1 (Int32.toNatClampNeg 0))) 85 1 ((pu_wi D 85 0 (D.1 q1 (Int32.toNatClampNeg 0))).1 q1 (Int32.toNatClampNeg 1))) 85 2 ((pu_wi (pu_wi D 85 0 (D.1 q1 (Int32.toNatClampNeg 0))) 85 1 ((pu_wi D 85 0 (D.1 q1 (Int32.toNatClampNeg 0))).1 q1 (Int32.toNatClampNeg 1))).1 q1 (Int32.toNatClampNeg 2))).1 q1 (Int32.toNatClampNeg 3))).1 q1 (Int32.toNatClampNeg 4))).1 q1 (Int32.toNatClampNeg 5))).1 q1 (Int32.toNatClampNeg 6))).1 q1 (Int32.toNatClampNeg 7))) 85 8 ((pu_wi (pu_wi (pu_wi (pu_wi (pu_wi (pu_wi (pu_wi (pu_wi D 85 0 (D.1 q1 (Int32.toNatClampNeg 0))) 85 1 ((pu_wi D 85 0 (D.1 q1 (Int32.toNatClampNeg 0))).1 q1 (Int32.toNatClampNeg 1))) 85 2 ((pu_wi (pu_wi D 85 0 (D.1 q1 (Int32.toNatClampNeg 0))) 85 1 ((pu_wi D 85 0 (D.1 q1 (Int32.toNatClampNeg 0))).1 q1 (Int32.toNatClampNeg 1))).1 q1 (Int32.toNatClampNeg 2))) 85 3 ((pu_wi (pu_wi (pu_wi D 85 0 (D.1 q1 (Int32.toNatClampNeg 0))) 85 1 ((pu_wi D 85 0 (D.1 q1 (Int32.toNatClampNeg 0))).1 q1 (Int32.toNatClampNeg 1))) 85 2 ((pu_wi (pu_wi D 85 0 (D.1 q1 (Int32.toNatClampNeg 0))) 85 1 ((pu_wi D 85 0 (D.1 q1 (Int32.toNatClampNeg 0))).1 q1 (Int32.toNatClampNeg 1))).1 q1 (Int32.toNatClampNeg 2))).1 q1 (Int32.toNatClampNeg 3))) 85 4 ((pu_wi (pu_wi (pu_wi (pu_wi D 85 0 (D.1 q1 (Int32.toNatClampNeg 0))) 85 1 ((pu_wi D 85 0 (D.1 q1 (Int32.toNatClampNeg 0))).1 q1 (Int32.toNatClampNeg 1))) 85 2 ((pu_wi (pu_wi D 85 0 (D.1 q1 (Int32.toNatClampNeg 0))) 85 1 ((pu_wi D 85 0 (D.1 q1 (Int32.toNatClampNeg 0))).1 q1 (Int32.toNatClampNeg 1))).1 q1 (Int32.toNatClampNeg 2))) 85 3 ((pu_wi (pu_wi (pu_wi D 85 0 (D.1 q1 (Int32.toNatClampNeg 0))) 85 1 ((pu_wi D 85 0 (D.1 q1 (Int32.toNatClampNeg 0))).1 q1 (Int32.toNatClampNeg 1))) 85 2 ((pu_wi (pu_wi D 85 0 (D.1 q1 (Int32.toNatClampNeg 0))) 85 1 ((pu_wi D 85 0 (D.1 q1 (Int32.toNatClampNeg 0))).1 q1 (Int32.toNatClampNeg 1))).1 q1 (Int32.toNatClampNeg 2))).1 q1 (Int32.toNatClampNeg 3))).1 q1 (Int32.toNatClampNeg 4))) 85 5 ((pu_wi (pu_wi (pu_wi (pu_wi (pu_wi D 85 0 (D.1 q1 (Int32.toNatClampNeg 0))) 85 1 ((pu_wi D 85 0 (D.1 q1 (Int32.toNatClampNeg 0))).1 q1 (Int32.toNatClampNeg 1))) 85 2 ((pu_wi (pu_wi D 85 0 (D.1 q1 (Int32.toNatClampNeg 0))) 85 1 ((pu_wi D 85 0 (D.1 q1 (Int32.toNatClampNeg 0))).1 q1 (Int32.toNatClampNeg 1))).1 q1 (Int32.toNatClampNeg 2))) 85 3 ((pu_wi (pu_wi (pu_wi D 85 0 (D.1 q1 (Int32.toNatClampNeg 0))) 85 1 ((pu_wi D 85 0 (D.1 q1 (Int32.toNatClampNeg 0))).1 q1 (Int32.toNatClampNeg 1))) 85 2 ((pu_wi (pu_wi D 85 0 (D.1 q1 (Int32.toNatClampNeg 0))) 85 1 ((pu_wi D 85 0 (D.1 q1 (Int32.toNatClampNeg 0))).1 q1 (Int32.toNatClampNeg 1))).1 q1 (Int32.toNatClampNeg 2))).1 q1 (Int32.toNatClampNeg 3))) 85 4 ((pu_wi (pu_wi (pu_wi (pu_wi D 85 0 (D.1 q1 (Int32.toNatClampNeg 0))) 85 1 ((pu_wi D 85 0 (D.1 q1 (Int32.toNatClampNeg 0))).1 q1 (Int32.toNatClampNeg 1))) 85 2 ((pu_wi (pu_wi D 85 0 (D.1 q1 (Int32.toNatClampNeg 0))) 85 1 ((pu_wi D 85 0 (D.1 q1 (Int32.toNatClampNeg 0))).1 q1 (Int32.toNatClampNeg 1))).1 q1 (Int32.toNatClampNeg 2))) 85 3 ((pu_wi (pu_wi (pu_wi D 85 0 (D.1 q1 (Int32.toNatClampNeg 0))) 85 1 ((pu_wi D 85 0 (D.1 q1 (Int32.toNatClampNeg 0))).1 q1 (Int32.toNatClampNeg 1))) 85 2 ((pu_wi (pu_wi D 85 0 (D.1 q1 (Int32.toNatClampNeg 0))) 85 1 ((pu_wi D 85 0 (D.1 q1 (Int32.toNatClampNeg 0))).1 q1 (Int32.toNatClampNeg 1))).1 q1 (Int32.toNatClampNeg 2))).1 q1 (Int32.toNatClampNeg 3))).1 q1 (Int32.toNatClampNeg 4))).1 q1 (Int32.toNatClampNeg 5))) 85 6 ((pu_wi (pu_wi (pu_wi (pu_wi (pu_wi (pu_wi D 85 0 (D.1 q1 (Int32.toNatClampNeg 0))) 85 1 ((pu_wi D 85 0 (D.1 q1 (Int32.toNatClampNeg 0))).1 q1 (Int32.toNatClampNeg 1))) 85 2 ((pu_wi (pu_wi D 85 0 (D.1 q1 (Int32.toNatClampNeg 0))) 85 1 ((pu_wi D 85 0 (D.1 q1 (Int32.toNatClampNeg 0))).1 q1 (Int32.toNatClampNeg 1))).1 q1 (Int32.toNatClampNeg 2))) 85 3 ((pu_wi (pu_wi (pu_wi D 85 0 (D.1 q1 (Int32.toNatClampNeg 0))) 85 1 ((pu_wi D 85 0 (D.1 q1 (Int32.toNatClampNeg 0))).1 q1 (Int32.toNatClampNeg 1))) 85 2 ((pu_wi (pu_wi D 85 0 (D.1 q1 (Int32.toNatClampNeg 0))) 85 1 ((pu_wi D 85 0 (D.1 q1 (Int32.toNatClampNeg 0))).1 q1 (Int32.toNatClampNeg 1))).1 q1 (Int32.toNatClampNeg 2))).1 q1 (Int32.toNatClampNeg 3))) 85 4 ((pu_wi (pu_wi (pu_wi (pu_wi D 85 0 (D.1 q1 (Int32.toNatClampNeg 0))) 85 1 ((pu_wi D 85 0 (D.1 q1 (Int32.toNatClampNeg 0))).1 q1 (Int32.toNatClampNeg 1))) 85 2 ((pu_wi (pu_wi D 85 0 (D.1 q1 (Int32.toNatClampNeg 0))) 85 1 ((pu_wi D 85 0 (D.1 q1 (Int32.toNatClampNeg 0))).1 q1 (Int32.toNatClampNeg 1))).1 q1 (Int32.toNatClampNeg 2))) 85 3 ((pu_wi (pu_wi (pu_wi D 85 0 (D.1 q1 (Int32.toNatClampNeg 0))) 85 1 ((pu_wi D 85 0 (D.1 q1 (Int32.toNatClampNeg 0))).1 q1 (Int32.toNatClampNeg 1))) 85 2 ((pu_wi (pu_wi D 85 0 (D.1 q1 (Int32.toNatClampNeg 0))) 85 1 ((pu_wi D 85 0 (D.1 q1 (Int32.toNatClampNeg 0))).1 q1 (Int32.toNatClampNeg 1))).1 q1 (Int32.toNatClampNeg 2))).1 q1 (Int32.toNatClampNeg 3))).1 q1 (Int32.toNatClampNeg 4))) 85 5 ((pu_wi (pu_wi (pu_wi (pu_wi (pu_wi D 85 0 (D.1 q1 (Int32.toNatClampNeg 0))) 85 1 ((pu_wi D 85 0 (D.1 q1 (Int32.toNatClampNeg 0))).1 q1 (Int32.toNatClampNeg 1))) 85 2 ((pu_wi (pu_wi D 85 0 (D.1 q1 (Int32.toNatClampNeg 0))) 85 1 ((pu_wi D 85 0 (D.1 q1 (Int32.toNatClampNeg 0))).1 q1 (Int32.toNatClampNeg 1))).1 q1 (Int32.toNatClampNeg 2))) 85 3 ((pu_wi (pu_wi (pu_wi D 85 0 (D.1 q1 (Int32.toNatClampNeg 0))) 85 1 ((pu_wi D 85 0 (D.1 q1 (Int32.toNatClampNeg 0))).1 q1 (Int32.toNatClampNeg 1))) 85 2 ((pu_wi (pu_wi D 85 0 (D.1 q1 (Int32.toNatClampNeg 0))) 85 1 ((pu_wi D 85 0 (D.1 q1 (Int32.toNatClampNeg 0))).1 q1 (Int32.toNatClampNeg 1))).1 q1 (Int32.toNatClampNeg 2))).1 q1 (Int32.toNatClampNeg 3))) 85 4 ((pu_wi (pu_wi (pu_wi (pu_wi D 85 0 (D.1 q1 (Int32.toNatClampNeg 0))) 85 1 ((pu_wi D 85 0 (D.1 q1 (Int32.toNatClampNeg 0))).1 q1 (Int32.toNatClampNeg 1))) 85 2 ((pu_wi (pu_wi D 85 0 (D.1 q1 (Int32.toNatClampNeg 0))) 85 1 ((pu_wi D 85 0 (D.1 q1 (Int32.toNatClampNeg 0))).1 q1 (Int32.toNatClampNeg 1))).1 q1 (Int32.toNatClampNeg 2))) 85 3 ((pu_wi (pu_wi (pu_wi D 85 0 (D.1 q1 (Int32.toNatClampNeg 0))) 85 1 ((pu_wi D 85 0 (D.1 q1 (Int32.toNatClampNeg 0))).1 q1 (Int32.toNatClampNeg 1))) 85 2 ((pu_wi (pu_wi D 85 0 (D.1 q1 (Int32.toNatClampNeg 0))) 85 1 ((pu_wi D 85 0 (D.1 q1 (Int32.toNatClampNeg 0))).1 q1 (Int32.toNatClampNeg 1))).1 q1 (Int32.toNatClampNeg 2))).1 q1 (Int32.toNatClampNeg 3))).1 q1 (Int32.toNatClampNeg 4))).1 q1 (Int32.toNatClampNeg 5))).1 q1 (Int32.toNatClampNeg 6))) 85 7 ((pu_wi (pu_wi (pu_wi (pu_wi (pu_wi (pu_wi (pu_wi D 85 0 (D.1 q1 (Int32.toNatClampNeg 0))) 85 1 ((pu_wi D 85 0 (D.1 q1 (Int32.toNatClampNeg 0))).1 q1 (Int32.toNatClampNeg 1))) 85 2 ((pu_wi (pu_wi D 85 0 (D.1 q1 (Int32.toNatClampNeg 0))) 85 1 ((pu_wi D 85 0 (D.1 q1 (Int32.toNatClampNeg 0))).1 q1 (Int32.toNatClampNeg 1))).1 q1 (Int32.toNatClampNeg 2))) 85 3 ((pu_wi (pu_wi (pu_wi D 85 0 (D.1 q1 (Int32.toNatClampNeg 0))) 85 1 ((pu_wi D 85 0 (D.1 q1 (Int32.toNatClampNeg 0))).1 q1 (Int32.toNatClampNeg 1))) 85 2 ((pu_wi (pu_wi D 85 0 (D.1 q1 (Int32.toNatClampNeg 0))) 85 1 ((pu_wi D 85 0 (D.1 q1 (Int32.toNatClampNeg 0))).1 q1 (Int32.toNatClampNeg 1))).1 q1 (Int32.toNatClampNeg 2))).1 q1 (Int32.toNatClampNeg 3))) 85 4 ((pu_wi (pu_wi (pu_wi (pu_wi D 85 0 (D.1 q1 (Int32.toNatClampNeg 0))) 85 1 ((pu_wi D 85 0 (D.1 q1 (Int32.toNatClampNeg 0))).1 q1 (Int32.toNatClampNeg 1))) 85 2 ((pu_wi (pu_wi D 85 0 (D.1 q1 (Int32.toNatClampNeg 0))) 85 1 ((pu_wi D 85 0 (D.1 q1 (Int32.toNatClampNeg 0))).1 q1 (Int32.toNatClampNeg 1))).1 q1 (Int32.toNatClampNeg 2))) 85 3 ((pu_wi (pu_wi (pu_wi D 85 0 (D.1 q1 (Int32.toNatClampNeg 0))) 85 1 ((pu_wi D 85 0 (D.1 q1 (Int32.toNatClampNeg 0))).1 q1 (Int32.toNatClampNeg 1))) 85 2 ((pu_wi (pu_wi D 85 0 (D.1 q1 (Int32.toNatClampNeg 0))) 85 1 ((pu_wi D 85 0 (D.1 q1 (Int32.toNatClampNeg 0))).1 q1 (Int32.toNatClampNeg 1))).1 q1 (Int32.toNatClampNeg 2))).1 q1 (Int32.toNatClampNeg 3))).1 q1 (Int32.toNatClampNeg 4))) 85 5 ((pu_wi (pu_wi (pu_wi (pu_wi (pu_wi D 85 0 (D.1 q1 (Int32.toNatClampNeg 0))) 85 1 ((pu_wi D 85 0 (D.1 q1 (Int32.toNatClampNeg 0))).1 q1 (Int32.toNatClampNeg 1))) 85 2 ((pu_wi (pu_wi D 85 0 (D.1 q1 (Int32.toNatClampNeg 0))) 85 1 ((pu_wi D 85 0 (D.1 q1 (Int32.toNatClampNeg 0))).1 q1 (Int32.toNatClampNeg 1))).1 q1 (Int32.toNatClampNeg 2))) 85 3 ((pu_wi (pu_wi (pu_wi D 85 0 (D.1 q1 (Int32.toNatClampNeg 0))) 85 1 ((pu_wi D 85 0 (D.1 q1 (Int32.toNatClampNeg 0))).1 q1 (Int32.toNatClampNeg 1))) 85 2 ((pu_wi (pu_wi D 85 0 (D.1 q1 (Int32.toNatClampNeg 0))) 85 1 ((pu_wi D 85 0 (D.1 q1 (Int32.toNatClampNeg 0))).1 q1 (Int32.toNatClampNeg 1))).1 q1 (Int32.toNatClampNeg 2))).1 q1 (Int32.toNatClampNeg 3))) 85 4 ((pu_wi (pu_wi (pu_wi (pu_wi D 85 0 (D.1 q1 (Int32.toNatClampNeg 0))) 85 1 ((pu_wi D 85 0 (D.1 q1 (Int32.toNatClampNeg 0))).1 q1 (Int32.toNatClampNeg 1))) 85 2 ((pu_wi (pu_wi D 85 0 (D.1 q1 (Int32.toNatClampNeg 0))) 85 1 ((pu_wi D 85 0 (D.1 q1 (Int32.toNatClampNeg 0))).1 q1 (Int32.toNatClampNeg 1))).1 q1 (Int32.toNatClampNeg 2))) 85 3 ((pu_wi (pu_wi (pu_wi D 85 0 (D.1 q1 (Int32.toNatClampNeg 0))) 85 1 ((pu_wi D 85 0 (D.1 q1 (Int32.toNatClampNeg 0))).1 q1 (Int32.toNatClampNeg 1))) 85 2 ((pu_wi (pu_wi D 85 0 (D.1 q1 (Int32.toNatClampNeg 0))) 85 1 ((pu_wi D 85 0 (D.1 q1 (Int32.toNatClampNeg 0))).1 q1 (Int32.toNatClampNeg 1))).1 q1 (Int32.toNatClampNeg 2))).1 q1 (Int32.toNatClampNeg 3))).1 q1 (Int32.toNatClampNeg 4))).1 q1 (Int32.toNatClampNeg 5))) 85 6 ((pu_wi (pu_wi (pu_wi (pu_wi (pu_wi (pu_wi D 85 0 (D.1 q1 (Int32.toNatClampNeg 0))) 85 1 ((pu_wi D 85 0 (D.1 q1 (Int32.toNatClampNeg 0))).1 q1 (Int32.toNatClampNeg 1))) 85 2 ((pu_wi (pu_wi D 85 0 (D.1 q1 (Int32.toNatClampNeg 0))) 85 1 ((pu_wi D 85 0 (D.1 q1 (Int32.toNatClampNeg 0))).1 q1 (Int32.toNatClampNeg 1))).1 q1 (Int32.toNatClampNeg 2))) 85 3 ((pu_wi (pu_wi (pu_wi D 85 0 (D.1 q1 (Int32.toNatClampNeg 0))) 85 1 ((pu_wi D 85 0 (D.1 q1 (Int32.toNatClampNeg 0))).1 q1 (Int32.toNatClampNeg 1))) 85 2 ((pu_wi (pu_wi D 85 0 (D.1 q1 (Int32.toNatClampNeg 0))) 85 1 ((pu_wi D 85 0 (D.1 q1 (Int32.toNatClampNeg 0))).1 q1 (Int32.toNatClampNeg 1))).1 q1 (Int32.toNatClampNeg 2))).1 q1 (Int32.toNatClampNeg 3))) 85 4 ((pu_wi (pu_wi (pu_wi (pu_wi D 85 0 (D.1 q1 (Int32.toNatClampNeg 0))) 85 1 ((pu_wi D 85 0 (D.1 q1 (Int32.toNatClampNeg 0))).1 q1 (Int32.toNatClampNeg 1))) 85 2 ((pu_wi (pu_wi D 85 0 (D.1 q1 (Int32.toNatClampNeg 0))) 85 1 ((pu_wi D 85 0 (D.1 q1 (Int32.toNatClampNeg 0))).1 q1 (Int32.toNatClampNeg 1))).1 q1 (Int32.toNatClampNeg 2))) 85 3 ((pu_wi (pu_wi (pu_wi D 85 0 (D.1 q1 (Int32.toNatClampNeg 0))) 85 1 ((pu_wi D 85 0 (D.1 q1 (Int32.toNatClampNeg 0))).1 q1 (Int32.toNatClampNeg 1))) 85 2 ((pu_wi (pu_wi D 85 0 (D.1 q1 (Int32.toNatClampNeg 0))) 85 1 ((pu_wi D 85 0 (D.1 q1 (Int32.toNatClampNeg 0))).1 q1 (Int32.toNatClampNeg 1))).1 q1 (Int32.toNatClampNeg 2))).1 q1 (Int32.toNatClampNeg 3))).1 q1 (Int32.toNatClampNeg 4))) 85 5 ((pu_wi (pu_wi (pu_wi (pu_wi (pu_wi D 85 0 (D.1 q1 (Int32.toNatClampNeg 0))) 85 1 ((pu_wi D 85 0 (D.1 q1 (Int32.toNatClampNeg 0))).1 q1 (Int32.toNatClampNeg 1))) 85 2 ((pu_wi (pu_wi D 85 0 (D.1 q1 (Int32.toNatClampNeg 0))) 85 1 ((pu_wi D 85 0 (D.1 q1 (Int32.toNatClampNeg 0))).1 q1 (Int32.toNatClampNeg 1))).1 q1 (Int32.toNatClampNeg 2))) 85 3 ((pu_wi (pu_wi (pu_wi D 85 0 (D.1 q1 (Int32.toNatClampNeg 0))) 85 1 ((pu_wi D 85 0 (D.1 q1 (Int32.toNatClampNeg 0))).1 q1 (Int32.toNatClampNeg 1))) 85 2 ((pu_wi (pu_wi D 85 0 (D.1 q1 (Int32.toNatClampNeg 0))) 85 1 ((pu_wi D 85 0 (D.1 q1 (Int32.toNatClampNeg 0))).1 q1 (Int32.toNatClampNeg 1))).1 q1 (Int32.toNatClampNeg 2))).1 q1 (Int32.toNatClampNeg 3))) 85 4 ((pu_wi (pu_wi (pu_wi (pu_wi D 85 0 (D.1 q1 (Int32.toNatClampNeg 0))) 85 1 ((pu_wi D 85 0 (D.1 q1 (Int32.toNatClampNeg 0))).1 q1 (Int32.toNatClampNeg 1))) 85 2 ((pu_wi (pu_wi D 85 0 (D.1 q1 (Int32.toNatClampNeg 0))) 85 1 ((pu_wi D 85 0 (D.1 q1 (Int32.toNatClampNeg 0))).1 q1 (Int32.toNatClampNeg 1))).1 q1 (Int32.toNatClampNeg 2))) 85 3 ((pu_wi (pu_wi (pu_wi D 85 0 (D.1 q1 (Int32.toNatClampNeg 0))) 85 1 ((pu_wi D 85 0 (D.1 q1 (Int32.toNatClampNeg 0))).1 q1 (Int32.toNatClampNeg 1))) 85 2 ((pu_wi (pu_wi D 85 0 (D.1 q1 (Int32.toNatClampNeg 0))) 85 1 ((pu_wi D 85 0 (D.1 q1 (Int32.toNatClampNeg 0))).1 q1 (Int32.toNatClampNeg 1))).1 q1 (Int32.toNatClampNeg 2))).1 q1 (Int32.toNatClampNeg 3))).1 q1 (Int32.toNatClampNeg 4))).1 q1 (Int32.toNatClampNeg 5))).1 q1 (Int32.toNatClampNeg 6))).1 q1 (Int32.toNatClampNeg 7))).1 q1 (Int32.toNatClampNeg 8))).1 q1 (Int32.toNatClampNeg 9))) 85 10 ((pu_wi (pu_wi (pu_wi (pu_wi (pu_wi (pu_wi (pu_wi (pu_wi (pu_wi (pu_wi D 85 0 (D.1 q1 (Int32.toNatClampNeg 0))) 85 1 ((pu_wi D 85 0 (D.1 q1 (Int32.toNatClampNeg 0))).1 q1 (Int32.toNatClampNeg 1))) 85 2 ((pu_wi (pu_wi D 85 0 (D.1 q1 (Int32.toNatClampNeg 0))) 85 1 ((pu_wi D 85 0 (D.1 q1 (Int32.toNatClampNeg 0))).1 q1 (Int32.toNatClampNeg 1))).1 q1 (Int32.toNatClampNeg 2))) 85 3 ((pu_wi (pu_wi (pu_wi D 85 0 (D.1 q1 (Int32.toNatClampNeg 0))) 85 1 ((pu_wi D 85 0 (D.1 q1 (Int32.toNatClampNeg 0))).1 q1 (Int32.toNatClampNeg 1))) 85 2 ((pu_wi (pu_wi D 85 0 (D.1 q1 (Int32.toNatClampNeg 0))) 85 1 ((pu_wi D 85 0 (D.1 q1 (Int32.toNatClampNeg 0))).1 q1 (Int32.toNatClampNeg 1))).1 q1 (Int32.toNatClampNeg 2))).1 q1 (Int32.toNatClampNeg 3))) 85 4 ((pu_wi (pu_wi (pu_wi (pu_wi D 85 0 (D.1 q1 (Int32.toNatClampNeg 0))) 85 1 ((pu_wi D 85 0 (D.1 q1 (Int32.toNatClampNeg 0))).1 q1 (Int32.toNatClampNeg 1))) 85 2 ((pu_wi (pu_wi D 85 0 (D.1 q1 (Int32.toNatClampNeg 0))) 85 1 ((pu_wi D 85 0 (D.1 q1 (Int32.toNatClampNeg 0))).1 q1 (Int32.toNatClampNeg 1))).1 q1 (Int32.toNatClampNeg 2))) 85 3 ((pu_wi (pu_wi (pu_wi D 85 0 (D.1 q1 (Int32.toNatClampNeg 0))) 85 1 ((pu_wi D 85 0 (D.1 q1 (Int32.toNatClampNeg 0))).1 q1 (Int32.toNatClampNeg 1))) 85 2 ((pu_wi (pu_wi D 85 0 (D.1 q1 (Int32.toNatClampNeg 0))) 85 1 ((pu_wi D 85 0 (D.1 q1 (Int32.toNatClampNeg 0))).1 q1 (Int32.toNatClampNeg 1))).1 q1 (Int32.toNatClampNeg 2))).1 q1 (Int32.toNatClampNeg 3))).1 q1 (Int32.toNatClampNeg 4))) 85 5 ((pu_wi (pu_wi (pu_wi (pu_wi (pu_wi D 85 0 (D.1 q1 (Int32.toNatClampNeg 0))) 85 1 ((pu_wi D 85 0 (D.1 q1 (Int32.toNatClampNeg 0))).1 q1 (Int32.toNatClampNeg 1))) 85 2 ((pu_wi (pu_wi D 85 0 (D.1 q1 (Int32.toNatClampNeg 0))) 85 1 ((pu_wi D 85 0 (D.1 q1 (Int32.toNatClampNeg 0))).1 q1 (Int32.toNatClampNeg 1))).1 q1 (Int32.toNatClampNeg 2))) 85 3 ((pu_wi (pu_wi (pu_wi D 85 0 (D.1 q1 (Int32.toNatClampNeg 0))) 85 1 ((pu_wi D 85 0 (D.1 q1 (Int32.toNatClampNeg 0))).1 q1 (Int32.toNatClampNeg 1))) 85 2 ((pu_wi (pu_wi D 85 0 (D.1 q1 (Int32.toNatClampNeg 0))) 85 1 ((pu_wi D 85 0 (D.1 q1 (Int32.toNatClampNeg 0))).1 q1 (Int32.toNatClampNeg 1))).1 q1 (Int32.toNatClampNeg 2))).1 q1 (Int32.toNatClampNeg 3))) 85 4 ((pu_wi (pu_wi (pu_wi (pu_wi D 85 0 (D.1 q1 (Int32.toNatClampNeg 0))) 85 1 ((pu_wi D 85 0 (D.1 q1 (Int32.toNatClampNeg 0))).1 q1 (Int32.toNatClampNeg 1))) 85 2 ((pu_wi (pu_wi D 85 0 (D.1 q1 (Int32.toNatClampNeg 0))) 85 1 ((pu_wi D 85 0 (D.1 q1 (Int32.toNatClampNeg 0))).1 q1 (Int32.toNatClampNeg 1))).1 q1 (Int32.toNatClampNeg 2))) 85 3 ((pu_wi (pu_wi (pu_wi D 85 0 (D.1 q1 (Int32.toNatClampNeg 0))) 85 1 ((pu_wi D 85 0 (D.1 q1 (Int32.toNatClampNeg 0))).1 q1 (Int32.toNatClampNeg 1))) 85 2 ((pu_wi (pu_wi D 85 0 (D.1 q1 (Int32.toNatClampNeg 0))) 85 1 ((pu_wi D 85 0 (D.1 q1 (Int32.toNatClampNeg 0))).1 q1 (Int32.toNatClampNeg 1))).1 q1 (Int32.toNatClampNeg 2))).1 q1 (Int32.toNatClampNeg 3))).1 q1 (Int32.toNatClampNeg 4))).1 q1 (Int32.toNatClampNeg 5))) 85 6 ((pu_wi (pu_wi (pu_wi (pu_wi (pu_wi (pu_wi D 85 0 (D.1 q1 (Int32.toNatClampNeg 0))) 85 1 ((pu_wi D 85 0 (D.1 q1 (Int32.toNatClampNeg 0))).1 q1 (Int32.toNatClampNeg 1))) 85 2 ((pu_wi (pu_wi D 85 0 (D.1 q1 (Int32.toNatClampNeg 0))) 85 1 ((pu_wi D 85 0 (D.1 q1 (Int32.toNatClampNeg 0))).1 q1 (Int32.toNatClampNeg 1))).1 q1 (Int32.toNatClampNeg 2))) 85 3 ((pu_wi (pu_wi (pu_wi D 85 0 (D.1 q1 (Int32.toNatClampNeg 0))) 85 1 ((pu_wi D 85 0 (D.1 q1 (Int32.toNatClampNeg 0))).1 q1 (Int32.toNatClampNeg 1))) 85 2 ((pu_wi (pu_wi D 85 0 (D.1 q1 (Int32.toNatClampNeg 0))) 85 1 ((pu_wi D 85 0 (D.1 q1 (Int32.toNatClampNeg 0))).1 q1 (Int32.toNatClampNeg 1))).1 q1 (Int32.toNatClampNeg 2))).1 q1 (Int32.toNatClampNeg 3))) 85 4 ((pu_wi (pu_wi (pu_wi (pu_wi D 85 0 (D.1 q1 (Int32.toNatClampNeg 0))) 85 1 ((pu_wi D 85 0 (D.1 q1 (Int32.toNatClampNeg 0))).1 q1 (Int32.toNatClampNeg 1))) 85 2 ((pu_wi (pu_wi D 85 0 (D.1 q1 (Int32.toNatClampNeg 0))) 85 1 ((pu_wi D 85 0 (D.1 q1 (Int32.toNatClampNeg 0))).1 q1 (Int32.toNatClampNeg 1))).1 q1 (Int32.toNatClampNeg 2))) 85 3 ((pu_wi (pu_wi (pu_wi D 85 0 (D.1 q1 (Int32.toNatClampNeg 0))) 85 1 ((pu_wi D 85 0 (D.1 q1 (Int32.toNatClampNeg 0))).1 q1 (Int32.toNatClampNeg 1))) 85 2 ((pu_wi (pu_wi D 85 0 (D.1 q1 (Int32.toNatClampNeg 0))) 85 1 ((pu_wi D 85 0 (D.1 q1 (Int32.toNatClampNeg 0))).1 q1 (Int32.toNatClampNeg 1))).1 q1 (Int32.toNatClampNeg 2))).1 q1 (Int32.toNatClampNeg 3))).1 q1 (Int32.toNatClampNeg 4))) 85 5 ((pu_wi (pu_wi (pu_wi (pu_wi (pu_wi D 85 0 (D.1 q1 (Int32.toNatClampNeg 0))) 85 1 ((pu_wi D 85 0 (D.1 q1 (Int32.toNatClampNeg 0))).1 q1 (Int32.toNatClampNeg 1))) 85 2 ((pu_wi (pu_wi D 85 0 (D.1 q1 (Int32.toNatClampNeg 0))) 85 1 ((pu_wi D 85 0 (D.1 q1 (Int32.toNatClampNeg 0))).1 q1 (Int32.toNatClampNeg 1))).1 q1 (Int32.toNatClampNeg 2))) 85 3 ((pu_wi (pu_wi (pu_wi D 85 0 (D.1 q1 (Int32.toNatClampNeg 0))) 85 1 ((pu_wi D 85 0 (D.1 q1 (Int32.toNatClampNeg 0))).1 q1 (Int32.toNatClampNeg 1))) 85 2 ((pu_wi (pu_wi D 85 0 (D.1 q1 (Int32.toNatClampNeg 0))) 85 1 ((pu_wi D 85 0 (D.1 q1 (Int32.toNatClampNeg 0))).1 q1 (Int32.toNatClampNeg 1))).1 q1 (Int32.toNatClampNeg 2))).1 q1 (Int32.toNatClampNeg 3))) 85 4 ((pu_wi (pu_wi (pu_wi (pu_wi D 85 0 (D.1 q1 (Int32.toNatClampNeg 0))) 85 1 ((pu_wi D 85 0 (D.1 q1 (Int32.toNatClampNeg 0))).1 q1 (Int32.toNatClampNeg 1))) 85 2 ((pu_wi (pu_wi D 85 0 (D.1 q1 (Int32.toNatClampNeg 0))) 85 1 ((pu_wi D 85 0 (D.1 q1 (Int32.toNatClampNeg 0))).1 q1 (Int32.toNatClampNeg 1))).1 q1 (Int32.toNatClampNeg 2))) 85 3 ((pu_wi (pu_wi (pu_wi D 85 0 (D.1 q1 (Int32.toNatClampNeg 0))) 85 1 ((pu_wi D 85 0 (D.1 q1 (Int32.toNatClampNeg 0))).1 q1 (Int32.toNatClampNeg 1))) 85 2 ((pu_wi (pu_wi D 85 0 (D.1 q1 (Int32.toNatClampNeg 0))) 85 1 ((pu_wi D 85 0 (D.1 q1 (Int32.toNatClampNeg 0))).1 q1 (Int32.toNatClampNeg 1))).1 q1 (Int32.toNatClampNeg 2))).1 q1 (Int32.toNatClampNeg 3))).1 q1 (Int32.toNatClampNeg 4))).1 q1 (Int32.toNatClampNeg 5))).1 q1 (Int32.toNatClampNeg 6))) 85 7 ((pu_wi (pu_wi (pu_wi (pu_wi (pu_wi (pu_wi (pu_wi D 85 0 (D.1 q1 (Int32.toNatClampNeg 0))) 85 1 ((pu_wi D 85 0 (D.1 q1 (Int32.toNatClampNeg 0))).1 q1 (Int32.toNatClampNeg 1))) 85 2 ((pu_wi (pu_wi D 85 0 (D.1 q1 (Int32.toNatClampNeg 0))) 85 1 ((pu_wi D 85 0 (D.1 q1 (Int32.toNatClampNeg 0))).1 q1 (Int32.toNatClampNeg 1))).1 q1 (Int32.toNatClampNeg 2))) 85 3 ((pu_wi (pu_wi (pu_wi D 85 0 (D.1 q1 (Int32.toNatClampNeg 0))) 85 1 ((pu_wi D 85 0 (D.1 q1 (Int32.toNatClampNeg 0))).1 q1 (Int32.toNatClampNeg 1))) 85 2 ((pu_wi (pu_wi D 85 0 (D.1 q1 (Int32.toNatClampNeg 0))) 85 1 ((pu_wi D 85 0 (D.1 q1 (Int32.toNatClampNeg 0))).1 q1 (Int32.toNatClampNeg 1))).1 q1 (Int32.toNatClampNeg 2))).1 q1 (Int32.toNatClampNeg 3))) 85 4 ((pu_wi (pu_wi (pu_wi (pu_wi D 85 0 (D.1 q1 (Int32.toNatClampNeg 0))) 85 1 ((pu_wi D 85 0 (D.1 q1 (Int32.toNatClampNeg 0))).1 q1 (Int32.toNatClampNeg 1))) 85 2 ((pu_wi (pu_wi D 85 0 (D.1 q1 (Int32.toNatClampNeg 0))) 85 1 ((pu_wi D 85 0 (D.1 q1 (Int32.toNatClampNeg 0))).1 q1 (Int32.toNatClampNeg 1))).1 q1 (Int32.toNatClampNeg 2))) 85 3 ((pu_wi (pu_wi (pu_wi D 85 0 (D.1 q1 (Int32.toNatClampNeg 0))) 85 1 ((pu_wi D 85 0 (D.1 q1 (Int32.toNatClampNeg 0))).1 q1 (Int32.toNatClampNeg 1))) 85 2 ((pu_wi (pu_wi D 85 0 (D.1 q1 (Int32.toNatClampNeg 0))) 85 1 ((pu_wi D 85 0 (D.1 q1 (Int32.toNatClampNeg 0))).1 q1 (Int32.toNatClampNeg 1))).1 q1 (Int32.toNatClampNeg 2))).1 q1 (Int32.toNatClampNeg 3))).1 q1 (Int32.toNatClampNeg 4))) 85 5 ((pu_wi (pu_wi (pu_wi (pu_wi (pu_wi D 85 0 (D.1 q1 (Int32.toNatClampNeg 0))) 85 1 ((pu_wi D 85 0 (D.1 q1 (Int32.toNatClampNeg 0))).1 q1 (Int32.toNatClampNeg 1))) 85 2 ((pu_wi (pu_wi D 85 0 (D.1 q1 (Int32.toNatClampNeg 0))) 85 1 ((pu_wi D 85 0 (D.1 q1 (Int32.toNatClampNeg 0))).1 q1 (Int32.toNatClampNeg 1))).1 q1 (Int32.toNatClampNeg 2))) 85 3 ((pu_wi (pu_wi (pu_wi D 85 0 (D.1 q1 (Int32.toNatClampNeg 0))) 85 1 ((pu_wi D 85 0 (D.1 q1 (Int32.toNatClampNeg 0))).1 q1 (Int32.toNatClampNeg 1))) 85 2 ((pu_wi (pu_wi D 85 0 (D.1 q1 (Int32.toNatClampNeg 0))) 85 1 ((pu_wi D 85 0 (D.1 q1 (Int32.toNatClampNeg 0))).1 q1 (Int32.toNatClampNeg 1))).1 q1 (Int32.toNatClampNeg 2))).1 q1 (Int32.toNatClampNeg 3))) 85 4 ((pu_wi (pu_wi (pu_wi (pu_wi D 85 0 (D.1 q1 (Int32.toNatClampNeg 0))) 85 1 ((pu_wi D 85 0 (D.1 q1 (Int32.toNatClampNeg 0))).1 q1 (Int32.toNatClampNeg 1))) 85 2 ((pu_wi (pu_wi D 85 0 (D.1 q1 (Int32.toNatClampNeg 0))) 85 1 ((pu_wi D 85 0 (D.1 q1 (Int32.toNatClampNeg 0))).1 q1 (Int32.toNatClampNeg 1))).1 q1 (Int32.toNatClampNeg 2))) 85 3 ((pu_wi (pu_wi (pu_wi D 85 0 (D.1 q1 (Int32.toNatClampNeg 0))) 85 1 ((pu_wi D 85 0 (D.1 q1 (Int32.toNatClampNeg 0))).1 q1 (Int32.toNatClampNeg 1))) 85 2 ((pu_wi (pu_wi D 85 0 (D.1 q1 (Int32.toNatClampNeg 0))) 85 1 ((pu_wi D 85 0 (D.1 q1 (Int32.toNatClampNeg 0))).1 q1 (Int32.toNatClampNeg 1))).1 q1 (Int32.toNatClampNeg 2))).1 q1 (Int32.toNatClampNeg 3))).1 q1 (Int32.toNatClampNeg 4))).1 q1 (Int32.toNatClampNeg 5))) 85 6 ((pu_wi (pu_wi (pu_wi (pu_wi (pu_wi (pu_wi D 85 0 (D.1 q1 (Int32.toNatClampNeg 0))) 85 1 ((pu_wi D 85 0 (D.1 q1 (Int32.toNatClampNeg 0))).1 q1 (Int32.toNatClampNeg 1))) 85 2 ((pu_wi (pu_wi D 85 0 (D.1 q1 (Int32.toNatClampNeg 0))) 85 1 ((pu_wi D 85 0 (D.1 q1 (Int32.toNatClampNeg 0))).1 q1 (Int32.toNatClampNeg 1))).1 q1 (Int32.toNatClampNeg 2))) 85 3 ((pu_wi (pu_wi (pu_wi D 85 0 (D.1 q1 (Int32.toNatClampNeg 0))) 85 1 ((pu_wi D 85 0 (D.1 q1 (Int32.toNatClampNeg 0))).1 q1 (Int32.toNatClampNeg 1))) 85 2 ((pu_wi (pu_wi D 85 0 (D.1 q1 (Int32.toNatClampNeg 0))) 85 1 ((pu_wi D 85 0 (D.1 q1 (Int32.toNatClampNeg 0))).1 q1 (Int32.toNatClampNeg 1))).1 q1 (Int32.toNatClampNeg 2))).1 q1 (Int32.toNatClampNeg 3))) 85 4 ((pu_wi (pu_wi (pu_wi (pu_wi D 85 0 (D.1 q1 (Int32.toNatClampNeg 0))) 85 1 ((pu_wi D 85 0 (D.1 q1 (Int32.toNatClampNeg 0))).1 q1 (Int32.toNatClampNeg 1))) 85 2 ((pu_wi (pu_wi D 85 0 (D.1 q1 (Int32.toNatClampNeg 0))) 85 1 ((pu_wi D 85 0 (D.1 q1 (Int32.toNatClampNeg 0))).1 q1 (Int32.toNatClampNeg 1))).1 q1 (Int32.toNatClampNeg 2))) 85 3 ((pu_wi (pu_wi (pu_wi D 85 0 (D.1 q1 (Int32.toNatClampNeg 0))) 85 1 ((pu_wi D 85 0 (D.1 q1 (Int32.toNatClampNeg 0))).1 q1 (Int32.toNatClampNeg 1))) 85 2 ((pu_wi (pu_wi D 85 0 (D.1 q1 (Int32.toNatClampNeg 0))) 85 1 ((pu_wi D 85 0 (D.1 q1 (Int32.toNatClampNeg 0))).1 q1 (Int32.toNatClampNeg 1))).1 q1 (Int32.toNatClampNeg 2))).1 q1 (Int32.toNatClampNeg 3))).1 q1 (Int32.toNatClampNeg 4))) 85 5 ((pu_wi (pu_wi (pu_wi (pu_wi (pu_wi D 85 0 (D.1 q1 (Int32.toNatClampNeg 0))) 85 1 ((pu_wi D 85 0 (D.1 q1 (Int32.toNatClampNeg 0))).1 q1 (Int32.toNatClampNeg 1))) 85 2 ((pu_wi (pu_wi D 85 0 (D.1 q1 (Int32.toNatClampNeg 0))) 85 1 ((pu_wi D 85 0 (D.1 q1 (Int32.toNatClampNeg 0))).1 q1 (Int32.toNatClampNeg 1))).1 q1 (Int32.toNatClampNeg 2))) 85 3 ((pu_wi (pu_wi (pu_wi D 85 0 (D.1 q1 (Int32.toNatClampNeg 0))) 85 1 ((pu_wi D 85 0 (D.1 q1 (Int32.toNatClampNeg 0))).1 q1 (Int32.toNatClampNeg 1))) 85 2 ((pu_wi (pu_wi D 85 0 (D.1 q1 (Int32.toNatClampNeg 0))) 85 1 ((pu_wi D 85 0 (D.1 q1 (Int32.toNatClampNeg 0))).1 q1 (Int32.toNatClampNeg 1))).1 q1 (Int32.toNatClampNeg 2))).1 q1 (Int32.toNatClampNeg 3))) 85 4 ((pu_wi (pu_wi (pu_wi (pu_wi D 85 0 (D.1 q1 (Int32.toNatClampNeg 0))) 85 1 ((pu_wi D 85 0 (D.1 q1 (Int32.toNatClampNeg 0))).1 q1 (Int32.toNatClampNeg 1))) 85 2 ((pu_wi (pu_wi D 85 0 (D.1 q1 (Int32.toNatClampNeg 0))) 85 1 ((pu_wi D 85 0 (D.1 q1 (Int32.toNatClampNeg 0))).1 q1 (Int32.toNatClampNeg 1))).1 q1 (Int32.toNatClampNeg 2))) 85 3 ((pu_wi (pu_wi (pu_wi D 85 0 (D.1 q1 (Int32.toNatClampNeg 0))) 85 1 ((pu_wi D 85 0 (D.1 q1 (Int32.toNatClampNeg 0))).1 q1 (Int32.toNatClampNeg 1))) 85 2 ((pu_wi (pu_wi D 85 0 (D.1 q1 (Int32.toNatClampNeg 0))) 85 1 ((pu_wi D 85 0 (D.1 q1 (Int32.toNatClampNeg 0))).1 q1 (Int32.toNatClampNeg 1))).1 q1 (Int32.toNatClampNeg 2))).1 q1 (Int32.toNatClampNeg 3))).1 q1 (Int32.toNatClampNeg 4))).1 q1 (Int32.toNatClampNeg 5))).1 q1 (Int32.toNatClampNeg 6))).1 q1 (Int32.toNatClampNeg 7))) 85 8 ((pu_wi (pu_wi (pu_wi (pu_wi (pu_wi (pu_wi (pu_wi (pu_wi D 85 0 (D.1 q1 (Int32.toNatClampNeg 0))) 85 1 ((pu_wi D 85 0 (D.1 q1 (Int32.toNatClampNeg 0))).1 q1 (Int32.toNatClampNeg 1))) 85 2 ((pu_wi (pu_wi D 85 0 (D.1 q1 (Int32.toNatClampNeg 0))) 85 1 ((pu_wi D 85 0 (D.1 q1 (Int32.toNatClampNeg 0))).1 q1 (Int32.toNatClampNeg 1))).1 q1 (Int32.toNatClampNeg 2))) 85 3 ((pu_wi (pu_wi (pu_wi D 85 0 (D.1 q1 (Int32.toNatClampNeg 0))) 85 1 ((pu_wi D 85 0 (D.1 q1 (Int32.toNatClampNeg 0))).1 q1 (Int32.toNatClampNeg 1))) 85 2 ((pu_wi (pu_wi D 85 0 (D.1 q1 (Int32.toNatClampNeg 0))) 85 1 ((pu_wi D 85 0 (D.1 q1 (Int32.toNatClampNeg 0))).1 q1 (Int32.toNatClampNeg 1))).1 q1 (Int32.toNatClampNeg 2))).1 q1 (Int32.toNatClampNeg 3))) 85 4 ((pu_wi (pu_wi (pu_wi (pu_wi D 85 0 (D.1 q1 (Int32.toNatClampNeg 0))) 85 1 ((pu_wi D 85 0 (D.1 q1 (Int32.toNatClampNeg 0))).1 q1 (Int32.toNatClampNeg 1))) 85 2 ((pu_wi (pu_wi D 85 0 (D.1 q1 (Int32.toNatClampNeg 0))) 85 1 ((pu_wi D 85 0 (D.1 q1 (Int32.toNatClampNeg 0))).1 q1 (Int32.toNatClampNeg 1))).1 q1 (Int32.toNatClampNeg 2))) 85 3 ((pu_wi (pu_wi (pu_wi D 85 0 (D.1 q1 (Int32.toNatClampNeg 0))) 85 1 ((pu_wi D 85 0 (D.1 q1 (Int32.toNatClampNeg 0))).1 q1 (Int32.toNatClampNeg 1))) 85 2 ((pu_wi (pu_wi D 85 0 (D.1 q1 (Int32.toNatClampNeg 0))) 85 1 ((pu_wi D 85 0 (D.1 q1 (Int32.toNatClampNeg 0))).1 q1 (Int32.toNatClampNeg 1))).1 q1 (Int32.toNatClampNeg 2))).1 q1 (Int32.toNatClampNeg 3))).1 q1 (Int32.toNatClampNeg 4))) 85 5 ((pu_wi (pu_wi (pu_wi (pu_wi (pu_wi D 85 0 (D.1 q1 (Int32.toNatClampNeg 0))) 85 1 ((pu_wi D 85 0 (D.1 q1 (Int32.toNatClampNeg 0))).1 q1 (Int32.toNatClampNeg 1))) 85 2 ((pu_wi (pu_wi D 85 0 (D.1 q1 (Int32.toNatClampNeg 0))) 85 1 ((pu_wi D 85 0 (D.1 q1 (Int32.toNatClampNeg 0))).1 q1 (Int32.toNatClampNeg 1))).1 q1 (Int32.toNatClampNeg 2))) 85 3 ((pu_wi (pu_wi (pu_wi D 85 0 (D.1 q1 (Int32.toNatClampNeg 0))) 85 1 ((pu_wi D 85 0 (D.1 q1 (Int32.toNatClampNeg 0))).1 q1 (Int32.toNatClampNeg 1))) 85 2 ((pu_wi (pu_wi D 85 0 (D.1 q1 (Int32.toNatClampNeg 0))) 85 1 ((pu_wi D 85 0 (D.1 q1 (Int32.toNatClampNeg 0))).1 q1 (Int32.toNatClampNeg 1))).1 q1 (Int32.toNatClampNeg 2))).1 q1 (Int32.toNatClampNeg 3))) 85 4 ((pu_wi (pu_wi (pu_wi (pu_wi D 85 0 (D.1 q1 (Int32.toNatClampNeg 0))) 85 1 ((pu_wi D 85 0 (D.1 q1 (Int32.toNatClampNeg 0))).1 q1 (Int32.toNatClampNeg 1))) 85 2 ((pu_wi (pu_wi D 85 0 (D.1 q1 (Int32.toNatClampNeg 0))) 85 1 ((pu_wi D 85 0 (D.1 q1 (Int32.toNatClampNeg 0))).1 q1 (Int32.toNatClampNeg 1))).1 q1 (Int32.toNatClampNeg 2))) 85 3 ((pu_wi (pu_wi (pu_wi D 85 0 (D.1 q1 (Int32.toNatClampNeg 0))) 85 1 ((pu_wi D 85 0 (D.1 q1 (Int32.toNatClampNeg 0))).1 q1 (Int32.toNatClampNeg 1))) 85 2 ((pu_wi (pu_wi D 85 0 (D.1 q1 (Int32.toNatClampNeg 0))) 85 1 ((pu_wi D 85 0 (D.1 q1 (Int32.toNatClampNeg 0))).1 q1 (Int32.toNatClampNeg 1))).1 q1 (Int32.toNatClampNeg 2))).1 q1 (Int32.toNatClampNeg 3))).1 q1 (Int32.toNatClampNeg 4))).1 q1 (Int32.toNatClampNeg 5))) 85 6 ((pu_wi (pu_wi (pu_wi (pu_wi (pu_wi (pu_wi D 85 0 (D.1 q1 (Int32.toNatClampNeg 0))) 85 1 ((pu_wi D 85 0 (D.1 q1 (Int32.toNatClampNeg 0))).1 q1 (Int32.toNatClampNeg 1))) 85 2 ((pu_wi (pu_wi D 85 0 (D.1 q1 (Int32.toNatClampNeg 0))) 85 1 ((pu_wi D 85 0 (D.1 q1 (Int32.toNatClampNeg 0))).1 q1 (Int32.toNatClampNeg 1))).1 q1 (Int32.toNatClampNeg 2))) 85 3 ((pu_wi (pu_wi (pu_wi D 85 0 (D.1 q1 (Int32.toNatClampNeg 0))) 85 1 ((pu_wi D 85 0 (D.1 q1 (Int32.toNatClampNeg 0))).1 q1 (Int32.toNatClampNeg 1))) 85 2 ((pu_wi (pu_wi D 85 0 (D.1 q1 (Int32.toNatClampNeg 0))) 85 1 ((pu_wi D 85 0 (D.1 q1 (Int32.toNatClampNeg 0))).1 q1 (Int32.toNatClampNeg 1))).1 q1 (Int32.toNatClampNeg 2))).1 q1 (Int32.toNatClampNeg 3))) 85 4 ((pu_wi (pu_wi (pu_wi (pu_wi D 85 0 (D.1 q1 (Int32.toNatClampNeg 0))) 85 1 ((pu_wi D 85 0 (D.1 q1 (Int32.toNatClampNeg 0))).1 q1 (Int32.toNatClampNeg 1))) 85 2 ((pu_wi (pu_wi D 85 0 (D.1 q1 (Int32.toNatClampNeg 0))) 85 1 ((pu_wi D 85 0 (D.1 q1 (Int32.toNatClampNeg 0))).1 q1 (Int32.toNatClampNeg 1))).1 q1 (Int32.toNatClampNeg 2))) 85 3 ((pu_wi (pu_wi (pu_wi D 85 0 (D.1 q1 (Int32.toNatClampNeg 0))) 85 1 ((pu_wi D 85 0 (D.1 q1 (Int32.toNatClampNeg 0))).1 q1 (Int32.toNatClampNeg 1))) 85 2 ((pu_wi (pu_wi D 85 0 (D.1 q1 (Int32.toNatClampNeg 0))) 85 1 ((pu_wi D 85 0 (D.1 q1 (Int32.toNatClampNeg 0))).1 q1 (Int32.toNatClampNeg 1))).1 q1 (Int32.toNatClampNeg 2))).1 q1 (Int32.toNatClampNeg 3))).1 q1 (Int32.toNatClampNeg 4))) 85 5 ((pu_wi (pu_wi (pu_wi (pu_wi (pu_wi D 85 0 (D.1 q1 (Int32.toNatClampNeg 0))) 85 1 ((pu_wi D 85 0 (D.1 q1 (Int32.toNatClampNeg 0))).1 q1 (Int32.toNatClampNeg 1))) 85 2 ((pu_wi (pu_wi D 85 0 (D.1 q1 (Int32.toNatClampNeg 0))) 85 1 ((pu_wi D 85 0 (D.1 q1 (Int32.toNatClampNeg 0))).1 q1 (Int32.toNatClampNeg 1))).1 q1 (Int32.toNatClampNeg 2))) 85 3 ((pu_wi (pu_wi (pu_wi D 85 0 (D.1 q1 (Int32.toNatClampNeg 0))) 85 1 ((pu_wi D 85 0 (D.1 q1 (Int32.toNatClampNeg 0))).1 q1 (Int32.toNatClampNeg 1))) 85 2 ((pu_wi (pu_wi D 85 0 (D.1 q1 (Int32.toNatClampNeg 0))) 85 1 ((pu_wi D 85 0 (D.1 q1 (Int32.toNatClampNeg 0))).1 q1 (Int32.toNatClampNeg 1))).1 q1 (Int32.toNatClampNeg 2))).1 q1 (Int32.toNatClampNeg 3))) 85 4 ((pu_wi (pu_wi (pu_wi (pu_wi D 85 0 (D.1 q1 (Int32.toNatClampNeg 0))) 85 1 ((pu_wi D 85 0 (D.1 q1 (Int32.toNatClampNeg 0))).1 q1 (Int32.toNatClampNeg 1))) 85 2 ((pu_wi (pu_wi D 85 0 (D.1 q1 (Int32.toNatClampNeg 0))) 85 1 ((pu_wi D 85 0 (D.1 q1 (Int32.toNatClampNeg 0))).1 q1 (Int32.toNatClampNeg 1))).1 q1 (Int32.toNatClampNeg 2))) 85 3 ((pu_wi (pu_wi (pu_wi D 85 0 (D.1 q1 (Int32.toNatClampNeg 0))) 85 1 ((pu_wi D 85 0 (D.1 q1 (Int32.toNatClampNeg 0))).1 q1 (Int32.toNatClampNeg 1))) 85 2 ((pu_wi (pu_wi D 85 0 (D.1 q1 (Int32.toNatClampNeg 0))) 85 1 ((pu_wi D 85 0 (D.1 q1 (Int32.toNatClampNeg 0))).1 q1 (Int32.toNatClampNeg 1))).1 q1 (Int32.toNatClampNeg 2))).1 q1 (Int32.toNatClampNeg 3))).1 q1 (Int32.toNatClampNeg 4))).1 q1 (Int32.toNatClampNeg 5))).1 q1 (Int32.toNatClampNeg 6))) 85 7 ((pu_wi (pu_wi (pu_wi (pu_wi (pu_wi (pu_wi (pu_wi D 85 0 (D.1 q1 (Int32.toNatClampNeg 0))) 85 1 ((pu_wi D 85 0 (D.1 q1 (Int32.toNatClampNeg 0))).1 q1 (Int32.toNatClampNeg 1))) 85 2 ((pu_wi (pu_wi D 85 0 (D.1 q1 (Int32.toNatClampNeg 0))) 85 1 ((pu_wi D 85 0 (D.1 q1 (Int32.toNatClampNeg 0))).1 q1 (Int32.toNatClampNeg 1))).1 q1 (Int32.toNatClampNeg 2))) 85 3 ((pu_wi (pu_wi (pu_wi D 85 0 (D.1 q1 (Int32.toNatClampNeg 0))) 85 1 ((pu_wi D 85 0 (D.1 q1 (Int32.toNatClampNeg 0))).1 q1 (Int32.toNatClampNeg 1))) 85 2 ((pu_wi (pu_wi D 85 0 (D.1 q1 (Int32.toNatClampNeg 0))) 85 1 ((pu_wi D 85 0 (D.1 q1 (Int32.toNatClampNeg 0))).1 q1 (Int32.toNatClampNeg 1))).1 q1 (Int32.toNatClampNeg 2))).1 q1 (Int32.toNatClampNeg 3))) 85 4 ((pu_wi (pu_wi (pu_wi (pu_wi D 85 0 (D.1 q1 (Int32.toNatClampNeg 0))) 85 1 ((pu_wi D 85 0 (D.1 q1 (Int32.toNatClampNeg 0))).1 q1 (Int32.toNatClampNeg 1))) 85 2 ((pu_wi (pu_wi D 85 0 (D.1 q1 (Int32.toNatClampNeg 0))) 85 1 ((pu_wi D 85 0 (D.1 q1 (Int32.toNatClampNeg 0))).1 q1 (Int32.toNatClampNeg 1))).1 q1 (Int32.toNatClampNeg 2))) 85 3 ((pu_wi (pu_wi (pu_wi D 85 0 (D.1 q1 (Int32.toNatClampNeg 0))) 85 1 ((pu_wi D 85 0 (D.1 q1 (Int32.toNatClampNeg 0))).1 q1 (Int32.toNatClampNeg 1))) 85 2 ((pu_wi (pu_wi D 85 0 (D.1 q1 (Int32.toNatClampNeg 0))) 85 1 ((pu_wi D 85 0 (D.1 q1 (Int32.toNatClampNeg 0))).1 q1 (Int32.toNatClampNeg 1))).1 q1 (Int32.toNatClampNeg 2))).1 q1 (Int32.toNatClampNeg 3))).1 q1 (Int32.toNatClampNeg 4))) 85 5 ((pu_wi (pu_wi (pu_wi (pu_wi (pu_wi D 85 0 (D.1 q1 (Int32.toNatClampNeg 0))) 85 1 ((pu_wi D 85 0 (D.1 q1 (Int32.toNatClampNeg 0))).1 q1 (Int32.toNatClampNeg 1))) 85 2 ((pu_wi (pu_wi D 85 0 (D.1 q1 (Int32.toNatClampNeg 0))) 85 1 ((pu_wi D 85 0 (D.1 q1 (Int32.toNatClampNeg 0))).1 q1 (Int32.toNatClampNeg 1))).1 q1 (Int32.toNatClampNeg 2))) 85 3 ((pu_wi (pu_wi (pu_wi D 85 0 (D.1 q1 (Int32.toNatClampNeg 0))) 85 1 ((pu_wi D 85 0 (D.1 q1 (Int32.toNatClampNeg 0))).1 q1 (Int32.toNatClampNeg 1))) 85 2 ((pu_wi (pu_wi D 85 0 (D.1 q1 (Int32.toNatClampNeg 0))) 85 1 ((pu_wi D 85 0 (D.1 q1 (Int32.toNatClampNeg 0))).1 q1 (Int32.toNatClampNeg 1))).1 q1 (Int32.toNatClampNeg 2))).1 q1 (Int32.toNatClampNeg 3))) 85 4 ((pu_wi (pu_wi (pu_wi (pu_wi D 85 0 (D.1 q1 (Int32.toNatClampNeg 0))) 85 1 ((pu_wi D 85 0 (D.1 q1 (Int32.toNatClampNeg 0))).1 q1 (Int32.toNatClampNeg 1))) 85 2 ((pu_wi (pu_wi D 85 0 (D.1 q1 (Int32.toNatClampNeg 0))) 85 1 ((pu_wi D 85 0 (D.1 q1 (Int32.toNatClampNeg 0))).1 q1 (Int32.toNatClampNeg 1))).1 q1 (Int32.toNatClampNeg 2))) 85 3 ((pu_wi (pu_wi (pu_wi D 85 0 (D.1 q1 (Int32.toNatClampNeg 0))) 85 1 ((pu_wi D 85 0 (D.1 q1 (Int32.toNatClampNeg 0))).1 q1 (Int32.toNatClampNeg 1))) 85 2 ((pu_wi (pu_wi D 85 0 (D.1 q1 (Int32.toNatClampNeg 0))) 85 1 ((pu_wi D 85 0 (D.1 q1 (Int32.toNatClampNeg 0))).1 q1 (Int32.toNatClampNeg 1))).1 q1 (Int32.toNatClampNeg 2))).1 q1 (Int32.toNatClampNeg 3))).1 q1 (Int32.toNatClampNeg 4))).1 q1 (Int32.toNatClampNeg 5))) 85 6 ((pu_wi (pu_wi (pu_wi (pu_wi (pu_wi (pu_wi D 85 0 (D.1 q1 (Int32.toNatClampNeg 0))) 85 1 ((pu_wi D 85 0 (D.1 q1 (Int32.toNatClampNeg 0))).1 q1 (Int32.toNatClampNeg 1))) 85 2 ((pu_wi (pu_wi D 85 0 (D.1 q1 (Int32.toNatClampNeg 0))) 85 1 ((pu_wi D 85 0 (D.1 q1 (Int32.toNatClampNeg 0))).1 q1 (Int32.toNatClampNeg 1))).1 q1 (Int32.toNatClampNeg 2))) 85 3 ((pu_wi (pu_wi (pu_wi D 85 0 (D.1 q1 (Int32.toNatClampNeg 0))) 85 1 ((pu_wi D 85 0 (D.1 q1 (Int32.toNatClampNeg 0))).1 q1 (Int32.toNatClampNeg 1))) 85 2 ((pu_wi (pu_wi D 85 0 (D.1 q1 (Int32.toNatClampNeg 0))) 85 1 ((pu_wi D 85 0 (D.1 q1 (Int32.toNatClampNeg 0))).1 q1 (Int32.toNatClampNeg 1))).1 q1 (Int32.toNatClampNeg 2))).1 q1 (Int32.toNatClampNeg 3))) 85 4 ((pu_wi (pu_wi (pu_wi (pu_wi D 85 0 (D.1 q1 (Int32.toNatClampNeg 0))) 85 1 ((pu_wi D 85 0 (D.1 q1 (Int32.toNatClampNeg 0))).1 q1 (Int32.toNatClampNeg 1))) 85 2 ((pu_wi (pu_wi D 85 0 (D.1 q1 (Int32.toNatClampNeg 0))) 85 1 ((pu_wi D 85 0 (D.1 q1 (Int32.toNatClampNeg 0))).1 q1 (Int32.toNatClampNeg 1))).1 q1 (Int32.toNatClampNeg 2))) 85 3 ((pu_wi (pu_wi (pu_wi D 85 0 (D.1 q1 (Int32.toNatClampNeg 0))) 85 1 ((pu_wi D 85 0 (D.1 q1 (Int32.toNatClampNeg 0))).1 q1 (Int32.toNatClampNeg 1))) 85 2 ((pu_wi (pu_wi D 85 0 (D.1 q1 (Int32.toNatClampNeg 0))) 85 1 ((pu_wi D 85 0 (D.1 q1 (Int32.toNatClampNeg 0))).1 q1 (Int32.toNatClampNeg 1))).1 q1 (Int32.toNatClampNeg 2))).1 q1 (Int32.toNatClampNeg 3))).1 q1 (Int32.toNatClampNeg 4))) 85 5 ((pu_wi (pu_wi (pu_wi (pu_wi (pu_wi D 85 0 (D.1 q1 (Int32.toNatClampNeg 0))) 85 1 ((pu_wi D 85 0 (D.1 q1 (Int32.toNatClampNeg 0))).1 q1 (Int32.toNatClampNeg 1))) 85 2 ((pu_wi (pu_wi D 85 0 (D.1 q1 (Int32.toNatClampNeg 0))) 85 1 ((pu_wi D 85 0 (D.1 q1 (Int32.toNatClampNeg 0))).1 q1 (Int32.toNatClampNeg 1))).1 q1 (Int32.toNatClampNeg 2))) 85 3 ((pu_wi (pu_wi (pu_wi D 85 0 (D.1 q1 (Int32.toNatClampNeg 0))) 85 1 ((pu_wi D 85 0 (D.1 q1 (Int32.toNatClampNeg 0))).1 q1 (Int32.toNatClampNeg 1))) 85 2 ((pu_wi (pu_wi D 85 0 (D.1 q1 (Int32.toNatClampNeg 0))) 85 1 ((pu_wi D 85 0 (D.1 q1 (Int32.toNatClampNeg 0))).1 q1 (Int32.toNatClampNeg 1))).1 q1 (Int32.toNatClampNeg 2))).1 q1 (Int32.toNatClampNeg 3))) 85 4 ((pu_wi (pu_wi (pu_wi (pu_wi D 85 0 (D.1 q1 (Int32.toNatClampNeg 0))) 85 1 ((pu_wi D 85 0 (D.1 q1 (Int32.toNatClampNeg 0))).1 q1 (Int32.toNatClampNeg 1))) 85 2 ((pu_wi (pu_wi D 85 0 (D.1 q1 (Int32.toNatClampNeg 0))) 85 1 ((pu_wi D 85 0 (D.1 q1 (Int32.toNatClampNeg 0))).1 q1 (Int32.toNatClampNeg 1))).1 q1 (Int32.toNatClampNeg 2))) 85 3 ((pu_wi (pu_wi (pu_wi D 85 0 (D.1 q1 (Int32.toNatClampNeg 0))) 85 1 ((pu_wi D 85 0 (D.1 q1 (Int32.toNatClampNeg 0))).1 q1 (Int32.toNatClampNeg 1))) 85 2 ((pu_wi (pu_wi D 85 0 (D.1 q1 (Int32.toNatClampNeg 0))) 85 1 ((pu_wi D 85 0 (D.1 q1 (Int32.toNatClampNeg 0))).1 q1 (Int32.toNatClampNeg 1))).1 q1 (Int32.toNatClampNeg 2))).1 q1 (Int32.toNatClampNeg 3))).1 q1 (Int32.toNatClampNeg 4))).1 q1 (Int32.toNatClampNeg 5))).1 q1 (Int32.toNatClampNeg 6))).1 q1 (Int32.toNatClampNeg 7))).1 q1 (Int32.toNatClampNeg 8))) 85 9 ((pu_wi (pu_wi (pu_wi (pu_wi (pu_wi (pu_wi (pu_wi (pu_wi (pu_wi D 85 0 (D.1 q1 (Int32.toNatClampNeg 0))) 85 1 ((pu_wi D 85 0 (D.1 q1 (Int32.toNatClampNeg 0))).1 q1 (Int32.toNatClampNeg 1))) 85 2 ((pu_wi (pu_wi D 85 0 (D.1 q1 (Int32.toNatClampNeg 0))) 85 1 ((pu_wi D 85 0 (D.1 q1 (Int32.toNatClampNeg 0))).1 q1 (Int32.toNatClampNeg 1))).1 q1 (Int32.toNatClampNeg 2))) 85 3 ((pu_wi (pu_wi (pu_wi D 85 0 (D.1 q1 (Int32.toNatClampNeg 0))) 85 1 ((pu_wi D 85 0 (D.1 q1 (Int32.toNatClampNeg 0))).1 q1 (Int32.toNatClampNeg 1))) 85 2 ((pu_wi (pu_wi D 85 0 (D.1 q1 (Int32.toNatClampNeg 0))) 85 1 ((pu_wi D 85 0 (D.1 q1 (Int32.toNatClampNeg 0))).1 q1 (Int32.toNatClampNeg 1))).1 q1 (Int32.toNatClampNeg 2))).1 q1 (Int32.toNatClampNeg 3))) 85 4 ((pu_wi (pu_wi (pu_wi (pu_wi D 85 0 (D.1 q1 (Int32.toNatClampNeg 0))) 85 1 ((pu_wi D 85 0 (D.1 q1 (Int32.toNatClampNeg 0))).1 q1 (Int32.toNatClampNeg 1))) 85 2 ((pu_wi (pu_wi D 85 0 (D.1 q1 (Int32.toNatClampNeg 0))) 85 1 ((pu_wi D 85 0 (D.1 q1 (Int32.toNatClampNeg 0))).1 q1 (Int32.toNatClampNeg 1))).1 q1 (Int32.toNatClampNeg 2))) 85 3 ((pu_wi (pu_wi (pu_wi D 85 0 (D.1 q1 (Int32.toNatClampNeg 0))) 85 1 ((pu_wi D 85 0 (D.1 q1 (Int32.toNatClampNeg 0))).1 q1 (Int32.toNatClampNeg 1))) 85 2 ((pu_wi (pu_wi D 85 0 (D.1 q1 (Int32.toNatClampNeg 0))) 85 1 ((pu_wi D 85 0 (D.1 q1 (Int32.toNatClampNeg 0))).1 q1 (Int32.toNatClampNeg 1))).1 q1 (Int32.toNatClampNeg 2))).1 q1 (Int32.toNatClampNeg 3))).1 q1 (Int32.toNatClampNeg 4))) 85 5 ((pu_wi (pu_wi (pu_wi (pu_wi (pu_wi D 85 0 (D.1 q1 (Int32.toNatClampNeg 0))) 85 1 ((pu_wi D 85 0 (D.1 q1 (Int32.toNatClampNeg 0))).1 q1 (Int32.toNatClampNeg 1))) 85 2 ((pu_wi (pu_wi D 85 0 (D.1 q1 (Int32.toNatClampNeg 0))) 85 1 ((pu_wi D 85 0 (D.1 q1 (Int32.toNatClampNeg 0))).1 q1 (Int32.toNatClampNeg 1))).1 q1 (Int32.toNatClampNeg 2))) 85 3 ((pu_wi (pu_wi (pu_wi D 85 0 (D.1 q1 (Int32.toNatClampNeg 0))) 85 1 ((pu_wi D 85 0 (D.1 q1 (Int32.toNatClampNeg 0))).1 q1 (Int32.toNatClampNeg 1))) 85 2 ((pu_wi (pu_wi D 85 0 (D.1 q1 (Int32.toNatClampNeg 0))) 85 1 ((pu_wi D 85 0 (D.1 q1 (Int32.toNatClampNeg 0))).1 q1 (Int32.toNatClampNeg 1))).1 q1 (Int32.toNatClampNeg 2))).1 q1 (Int32.toNatClampNeg 3))) 85 4 ((pu_wi (pu_wi (pu_wi (pu_wi D 85 0 (D.1 q1 (Int32.toNatClampNeg 0))) 85 1 ((pu_wi D 85 0 (D.1 q1 (Int32.toNatClampNeg 0))).1 q1 (Int32.toNatClampNeg 1))) 85 2 ((pu_wi (pu_wi D 85 0 (D.1 q1 (Int32.toNatClampNeg 0))) 85 1 ((pu_wi D 85 0 (D.1 q1 (Int32.toNatClampNeg 0))).1 q1 (Int32.toNatClampNeg 1))).1 q1 (Int32.toNatClampNeg 2))) 85 3 ((pu_wi (pu_wi (pu_wi D 85 0 (D.1 q1 (Int32.toNatClampNeg 0))) 85 1 ((pu_wi D 85 0 (D.1 q1 (Int32.toNatClampNeg 0))).1 q1 (Int32.toNatClampNeg 1))) 85 2 ((pu_wi (pu_wi D 85 0 (D.1 q1 (Int32.toNatClampNeg 0))) 85 1 ((pu_wi D 85 0 (D.1 q1 (Int32.toNatClampNeg 0))).1 q1 (Int32.toNatClampNeg 1))).1 q1 (Int32.toNatClampNeg 2))).1 q1 (Int32.toNatClampNeg 3))).1 q1 (Int32.toNatClampNeg 4))).1 q1 (Int32.toNatClampNeg 5))) 85 6 ((pu_wi (pu_wi (pu_wi (pu_wi (pu_wi (pu_wi D 85 0 (D.1 q1 (Int32.toNatClampNeg 0))) 85 1 ((pu_wi D 85 0 (D.1 q1 (Int32.toNatClampNeg 0))).1 q1 (Int32.toNatClampNeg 1))) 85 2 ((pu_wi (pu_wi D 85 0 (D.1 q1 (Int32.toNatClampNeg 0))) 85 1 ((pu_wi D 85 0 (D.1 q1 (Int32.toNatClampNeg 0))).1 q1 (Int32.toNatClampNeg 1))).1 q1 (Int32.toNatClampNeg 2))) 85 3 ((pu_wi (pu_wi (pu_wi D 85 0 (D.1 q1 (Int32.toNatClampNeg 0))) 85 1 ((pu_wi D 85 0 (D.1 q1 (Int32.toNatClampNeg 0))).1 q1 (Int32.toNatClampNeg 1))) 85 2 ((pu_wi (pu_wi D 85 0 (D.1 q1 (Int32.toNatClampNeg 0))) 85 1 ((pu_wi D 85 0 (D.1 q1 (Int32.toNatClampNeg 0))).1 q1 (Int32.toNatClampNeg 1))).1 q1 (Int32.toNatClampNeg 2))).1 q1 (Int32.toNatClampNeg 3))) 85 4 ((pu_wi (pu_wi (pu_wi (pu_wi D 85 0 (D.1 q1 (Int32.toNatClampNeg 0))) 85 1 ((pu_wi D 85 0 (D.1 q1 (Int32.toNatClampNeg 0))).1 q1 (Int32.toNatClampNeg 1))) 85 2 ((pu_wi (pu_wi D 85 0 (D.1 q1 (Int32.toNatClampNeg 0))) 85 1 ((pu_wi D 85 0 (D.1 q1 (Int32.toNatClampNeg 0))).1 q1 (Int32.toNatClampNeg 1))).1 q1 (Int32.toNatClampNeg 2))) 85 3 ((pu_wi (pu_wi (pu_wi D 85 0 (D.1 q1 (Int32.toNatClampNeg 0))) 85 1 ((pu_wi D 85 0 (D.1 q1 (Int32.toNatClampNeg 0))).1 q1 (Int32.toNatClampNeg 1))) 85 2 ((pu_wi (pu_wi D 85 0 (D.1 q1 (Int32.toNatClampNeg 0))) 85 1 ((pu_wi D 85 0 (D.1 q1 (Int32.toNatClampNeg 0))).1 q1 (Int32.toNatClampNeg 1))).1 q1 (Int32.toNatClampNeg 2))).1 q1 (Int32.toNatClampNeg 3))).1 q1 (Int32.toNatClampNeg 4))) 85 5 ((pu_wi (pu_wi (pu_wi (pu_wi (pu_wi D 85 0 (D.1 q1 (Int32.toNatClampNeg 0))) 85 1 ((pu_wi D 85 0 (D.1 q1 (Int32.toNatClampNeg 0))).1 q1 (Int32.toNatClampNeg 1))) 85 2 ((pu_wi (pu_wi D 85 0 (D.1 q1 (Int32.toNatClampNeg 0))) 85 1 ((pu_wi D 85 0 (D.1 q1 (Int32.toNatClampNeg 0))).1 q1 (Int32.toNatClampNeg 1))).1 q1 (Int32.toNatClampNeg 2))) 85 3 ((pu_wi (pu_wi (pu_wi D 85 0 (D.1 q1 (Int32.toNatClampNeg 0))) 85 1 ((pu_wi D 85 0 (D.1 q1 (Int32.toNatClampNeg 0))).1 q1 (Int32.toNatClampNeg 1))) 85 2 ((pu_wi (pu_wi D 85 0 (D.1 q1 (Int32.toNatClampNeg 0))) 85 1 ((pu_wi D 85 0 (D.1 q1 (Int32.toNatClampNeg 0))).1 q1 (Int32.toNatClampNeg 1))).1 q1 (Int32.toNatClampNeg 2))).1 q1 (Int32.toNatClampNeg 3))) 85 4 ((pu_wi (pu_wi (pu_wi (pu_wi D 85 0 (D.1 q1 (Int32.toNatClampNeg 0))) 85 1 ((pu_wi D 85 0 (D.1 q1 (Int32.toNatClampNeg 0))).1 q1 (Int32.toNatClampNeg 1))) 85 2 ((pu_wi (pu_wi D 85 0 (D.1 q1 (Int32.toNatClampNeg 0))) 85 1 ((pu_wi D 85 0 (D.1 q1 (Int32.toNatClampNeg 0))).1 q1 (Int32.toNatClampNeg 1))).1 q1 (Int32.toNatClampNeg 2))) 85 3 ((pu_wi (pu_wi (pu_wi D 85 0 (D.1 q1 (Int32.toNatClampNeg 0))) 85 1 ((pu_wi D 85 0 (D.1 q1 (Int32.toNatClampNeg 0))).1 q1 (Int32.toNatClampNeg 1))) 85 2 ((pu_wi (pu_wi D 85 0 (D.1 q1 (Int32.toNatClampNeg 0))) 85 1 ((pu_wi D 85 0 (D.1 q1 (Int32.toNatClampNeg 0))).1 q1 (Int32.toNatClampNeg 1))).1 q1 (Int32.toNatClampNeg 2))).1 q1 (Int32.toNatClampNeg 3))).1 q1 (Int32.toNatClampNeg 4))).1 q1 (Int32.toNatClampNeg 5))).1 q1 (Int32.toNatClampNeg 6))) 85 7 ((pu_wi (pu_wi (pu_wi (pu_wi (pu_wi (pu_wi (pu_wi D 85 0 (D.1 q1 (Int32.toNatClampNeg 0))) 85 1 ((pu_wi D 85 0 (D.1 q1 (Int32.toNatClampNeg 0))).1 q1 (Int32.toNatClampNeg 1))) 85 2 ((pu_wi (pu_wi D 85 0 (D.1 q1 (Int32.toNatClampNeg 0))) 85 1 ((pu_wi D 85 0 (D.1 q1 (Int32.toNatClampNeg 0))).1 q1 (Int32.toNatClampNeg 1))).1 q1 (Int32.toNatClampNeg 2))) 85 3 ((pu_wi (pu_wi (pu_wi D 85 0 (D.1 q1 (Int32.toNatClampNeg 0))) 85 1 ((pu_wi D 85 0 (D.1 q1 (Int32.toNatClampNeg 0))).1 q1 (Int32.toNatClampNeg 1))) 85 2 ((pu_wi (pu_wi D 85 0 (D.1 q1 (Int32.toNatClampNeg 0))) 85 1 ((pu_wi D 85 0 (D.1 q1 (Int32.toNatClampNeg 0))).1 q1 (Int32.toNatClampNeg 1))).1 q1 (Int32.toNatClampNeg 2))).1 q1 (Int32.toNatClampNeg 3))) 85 4 ((pu_wi (pu_wi (pu_wi (pu_wi D 85 0 (D.1 q1 (Int32.toNatClampNeg 0))) 85 1 ((pu_wi D 85 0 (D.1 q1 (Int32.toNatClampNeg 0))).1 q1 (Int32.toNatClampNeg 1))) 85 2 ((pu_wi (pu_wi D 85 0 (D.1 q1 (Int32.toNatClampNeg 0))) 85 1 ((pu_wi D 85 0 (D.1 q1 (Int32.toNatClampNeg 0))).1 q1 (Int32.toNatClampNeg 1))).1 q1 (Int32.toNatClampNeg 2))) 85 3 ((pu_wi (pu_wi (pu_wi D 85 0 (D.1 q1 (Int32.toNatClampNeg 0))) 85 1 ((pu_wi D 85 0 (D.1 q1 (Int32.toNatClampNeg 0))).1 q1 (Int32.toNatClampNeg 1))) 85 2 ((pu_wi (pu_wi D 85 0 (D.1 q1 (Int32.toNatClampNeg 0))) 85 1 ((pu_wi D 85 0 (D.1 q1 (Int32.toNatClampNeg 0))).1 q1 (Int32.toNatClampNeg 1))).1 q1 (Int32.toNatClampNeg 2))).1 q1 (Int32.toNatClampNeg 3))).1 q1 (Int32.toNatClampNeg 4))) 85 5 ((pu_wi (pu_wi (pu_wi (pu_wi (pu_wi D 85 0 (D.1 q1 (Int32.toNatClampNeg 0))) 85 1 ((pu_wi D 85 0 (D.1 q1 (Int32.toNatClampNeg 0))).1 q1 (Int32.toNatClampNeg 1))) 85 2 ((pu_wi (pu_wi D 85 0 (D.1 q1 (Int32.toNatClampNeg 0))) 85 1 ((pu_wi D 85 0 (D.1 q1 (Int32.toNatClampNeg 0))).1 q1 (Int32.toNatClampNeg 1))).1 q1 (Int32.toNatClampNeg 2))) 85 3 ((pu_wi (pu_wi (pu_wi D 85 0 (D.1 q1 (Int32.toNatClampNeg 0))) 85 1 ((pu_wi D 85 0 (D.1 q1 (Int32.toNatClampNeg 0))).1 q1 (Int32.toNatClampNeg 1))) 85 2 ((pu_wi (pu_wi D 85 0 (D.1 q1 (Int32.toNatClampNeg 0))) 85 1 ((pu_wi D 85 0 (D.1 q1 (Int32.toNatClampNeg 0))).1 q1 (Int32.toNatClampNeg 1))).1 q1 (Int32.toNatClampNeg 2))).1 q1 (Int32.toNatClampNeg 3))) 85 4 ((pu_wi (pu_wi (pu_wi (pu_wi D 85 0 (D.1 q1 (Int32.toNatClampNeg 0))) 85 1 ((pu_wi D 85 0 (D.1 q1 (Int32.toNatClampNeg 0))).1 q1 (Int32.toNatClampNeg 1))) 85 2 ((pu_wi (pu_wi D 85 0 (D.1 q1 (Int32.toNatClampNeg 0))) 85 1 ((pu_wi D 85 0 (D.1 q1 (Int32.toNatClampNeg 0))).1 q1 (Int32.toNatClampNeg 1))).1 q1 (Int32.toNatClampNeg 2))) 85 3 ((pu_wi (pu_wi (pu_wi D 85 0 (D.1 q1 (Int32.toNatClampNeg 0))) 85 1 ((pu_wi D 85 0 (D.1 q1 (Int32.toNatClampNeg 0))).1 q1 (Int32.toNatClampNeg 1))) 85 2 ((pu_wi (pu_wi D 85 0 (D.1 q1 (Int32.toNatClampNeg 0))) 85 1 ((pu_wi D 85 0 (D.1 q1 (Int32.toNatClampNeg 0))).1 q1 (Int32.toNatClampNeg 1))).1 q1 (Int32.toNatClampNeg 2))).1 q1 (Int32.toNatClampNeg 3))).1 q1 (Int32.toNatClampNeg 4))).1 q1 (Int32.toNatClampNeg 5))) 85 6 ((pu_wi (pu_wi (pu_wi (pu_wi (pu_wi (pu_wi D 85 0 (D.1 q1 (Int32.toNatClampNeg 0))) 85 1 ((pu_wi D 85 0 (D.1 q1 (Int32.toNatClampNeg 0))).1 q1 (Int32.toNatClampNeg 1))) 85 2 ((pu_wi (pu_wi D 85 0 (D.1 q1 (Int32.toNatClampNeg 0))) 85 1 ((pu_wi D 85 0 (D.1 q1 (Int32.toNatClampNeg 0))).1 q1 (Int32.toNatClampNeg 1))).1 q1 (Int32.toNatClampNeg 2))) 85 3 ((pu_wi (pu_wi (pu_wi D 85 0 (D.1 q1 (Int32.toNatClampNeg 0))) 85 1 ((pu_wi D 85 0 (D.1 q1 (Int32.toNatClampNeg 0))).1 q1 (Int32.toNatClampNeg 1))) 85 2 ((pu_wi (pu_wi D 85 0 (D.1 q1 (Int32.toNatClampNeg 0))) 85 1 ((pu_wi D 85 0 (D.1 q1 (Int32.toNatClampNeg 0))).1 q1 (Int32.toNatClampNeg 1))).1 q1 (Int32.toNatClampNeg 2))).1 q1 (Int32.toNatClampNeg 3))) 85 4 ((pu_wi (pu_wi (pu_wi (pu_wi D 85 0 (D.1 q1 (Int32.toNatClampNeg 0))) 85 1 ((pu_wi D 85 0 (D.1 q1 (Int32.toNatClampNeg 0))).1 q1 (Int32.toNatClampNeg 1))) 85 2 ((pu_wi (pu_wi D 85 0 (D.1 q1 (Int32.toNatClampNeg 0))) 85 1 ((pu_wi D 85 0 (D.1 q1 (Int32.toNatClampNeg 0))).1 q1 (Int32.toNatClampNeg 1))).1 q1 (Int32.toNatClampNeg 2))) 85 3 ((pu_wi (pu_wi (pu_wi D 85 0 (D.1 q1 (Int32.toNatClampNeg 0))) 85 1 ((pu_wi D 85 0 (D.1 q1 (Int32.toNatClampNeg 0))).1 q1 (Int32.toNatClampNeg 1))) 85 2 ((pu_wi (pu_wi D 85 0 (D.1 q1 (Int32.toNatClampNeg 0))) 85 1 ((pu_wi D 85 0 (D.1 q1 (Int32.toNatClampNeg 0))).1 q1 (Int32.toNatClampNeg 1))).1 q1 (Int32.toNatClampNeg 2))).1 q1 (Int32.toNatClampNeg 3))).1 q1 (Int32.toNatClampNeg 4))) 85 5 ((pu_wi (pu_wi (pu_wi (pu_wi (pu_wi D 85 0 (D.1 q1 (Int32.toNatClampNeg 0))) 85 1 ((pu_wi D 85 0 (D.1 q1 (Int32.toNatClampNeg 0))).1 q1 (Int32.toNatClampNeg 1))) 85 2 ((pu_wi (pu_wi D 85 0 (D.1 q1 (Int32.toNatClampNeg 0))) 85 1 ((pu_wi D 85 0 (D.1 q1 (Int32.toNatClampNeg 0))).1 q1 (Int32.toNatClampNeg 1))).1 q1 (Int32.toNatClampNeg 2))) 85 3 ((pu_wi (pu_wi (pu_wi D 85 0 (D.1 q1 (Int32.toNatClampNeg 0))) 85 1 ((pu_wi D 85 0 (D.1 q1 (Int32.toNatClampNeg 0))).1 q1 (Int32.toNatClampNeg 1))) 85 2 ((pu_wi (pu_wi D 85 0 (D.1 q1 (Int32.toNatClampNeg 0))) 85 1 ((pu_wi D 85 0 (D.1 q1 (Int32.toNatClampNeg 0))).1 q1 (Int32.toNatClampNeg 1))).1 q1 (Int32.toNatClampNeg 2))).1 q1 (Int32.toNatClampNeg 3))) 85 4 ((pu_wi (pu_wi (pu_wi (pu_wi D 85 0 (D.1 q1 (Int32.toNatClampNeg 0))) 85 1 ((pu_wi D 85 0 (D.1 q1 (Int32.toNatClampNeg 0))).1 q1 (Int32.toNatClampNeg 1))) 85 2 ((pu_wi (pu_wi D 85 0 (D.1 q1 (Int32.toNatClampNeg 0))) 85 1 ((pu_wi D 85 0 (D.1 q1 (Int32.toNatClampNeg 0))).1 q1 (Int32.toNatClampNeg 1))).1 q1 (Int32.toNatClampNeg 2))) 85 3 ((pu_wi (pu_wi (pu_wi D 85 0 (D.1 q1 (Int32.toNatClampNeg 0))) 85 1 ((pu_wi D 85 0 (D.1 q1 (Int32.toNatClampNeg 0))).1 q1 (Int32.toNatClampNeg 1))) 85 2 ((pu_wi (pu_wi D 85 0 (D.1 q1 (Int32.toNatClampNeg 0))) 85 1 ((pu_wi D 85 0 (D.1 q1 (Int32.toNatClampNeg 0))).1 q1 (Int32.toNatClampNeg 1))).1 q1 (Int32.toNatClampNeg 2))).1 q1 (Int32.toNatClampNeg 3))).1 q1 (Int32.toNatClampNeg 4))).1 q1 (Int32.toNatClampNeg 5))).1 q1 (Int32.toNatClampNeg 6))).1 q1 (Int32.toNatClampNeg 7))) 85 8 ((pu_wi (pu_wi (pu_wi (pu_wi (pu_wi (pu_wi (pu_wi (pu_wi D 85 0 (D.1 q1 (Int32.toNatClampNeg 0))) 85 1 ((pu_wi D 85 0 (D.1 q1 (Int32.toNatClampNeg 0))).1 q1 (Int32.toNatClampNeg 1))) 85 2 ((pu_wi (pu_wi D 85 0 (D.1 q1 (Int32.toNatClampNeg 0))) 85 1 ((pu_wi D 85 0 (D.1 q1 (Int32.toNatClampNeg 0))).1 q1 (Int32.toNatClampNeg 1))).1 q1 (Int32.toNatClampNeg 2))) 85 3 ((pu_wi (pu_wi (pu_wi D 85 0 (D.1 q1 (Int32.toNatClampNeg 0))) 85 1 ((pu_wi D 85 0 (D.1 q1 (Int32.toNatClampNeg 0))).1 q1 (Int32.toNatClampNeg 1))) 85 2 ((pu_wi (pu_wi D 85 0 (D.1 q1 (Int32.toNatClampNeg 0))) 85 1 ((pu_wi D 85 0 (D.1 q1 (Int32.toNatClampNeg 0))).1 q1 (Int32.toNatClampNeg 1))).1 q1 (Int32.toNatClampNeg 2))).1 q1 (Int32.toNatClampNeg 3))) 85 4 ((pu_wi (pu_wi (pu_wi (pu_wi D 85 0 (D.1 q1 (Int32.toNatClampNeg 0))) 85 1 ((pu_wi D 85 0 (D.1 q1 (Int32.toNatClampNeg 0))).1 q1 (Int32.toNatClampNeg 1))) 85 2 ((pu_wi (pu_wi D 85 0 (D.1 q1 (Int32.toNatClampNeg 0))) 85 1 ((pu_wi D 85 0 (D.1 q1 (Int32.toNatClampNeg 0))).1 q1 (Int32.toNatClampNeg 1))).1 q1 (Int32.toNatClampNeg 2))) 85 3 ((pu_wi (pu_wi (pu_wi D 85 0 (D.1 q1 (Int32.toNatClampNeg 0))) 85 1 ((pu_wi D 85 0 (D.1 q1 (Int32.toNatClampNeg 0))).1 q1 (Int32.toNatClampNeg 1))) 85 2 ((pu_wi (pu_wi D 85 0 (D.1 q1 (Int32.toNatClampNeg 0))) 85 1 ((pu_wi D 85 0 (D.1 q1 (Int32.toNatClampNeg 0))).1 q1 (Int32.toNatClampNeg 1))).1 q1 (Int32.toNatClampNeg 2))).1 q1 (Int32.toNatClampNeg 3))).1 q1 (Int32.toNatClampNeg 4))) 85 5 ((pu_wi (pu_wi (pu_wi (pu_wi (pu_wi D 85 0 (D.1 q1 (Int32.toNatClampNeg 0))) 85 1 ((pu_wi D 85 0 (D.1 q1 (Int32.toNatClampNeg 0))).1 q1 (Int32.toNatClampNeg 1))) 85 2 ((pu_wi (pu_wi D 85 0 (D.1 q1 (Int32.toNatClampNeg 0))) 85 1 ((pu_wi D 85 0 (D.1 q1 (Int32.toNatClampNeg 0))).1 q1 (Int32.toNatClampNeg 1))).1 q1 (Int32.toNatClampNeg 2))) 85 3 ((pu_wi (pu_wi (pu_wi D 85 0 (D.1 q1 (Int32.toNatClampNeg 0))) 85 1 ((pu_wi D 85 0 (D.1 q1 (Int32.toNatClampNeg 0))).1 q1 (Int32.toNatClampNeg 1))) 85 2 ((pu_wi (pu_wi D 85 0 (D.1 q1 (Int32.toNatClampNeg 0))) 85 1 ((pu_wi D 85 0 (D.1 q1 (Int32.toNatClampNeg 0))).1 q1 (Int32.toNatClampNeg 1))).1 q1 (Int32.toNatClampNeg 2))).1 q1 (Int32.toNatClampNeg 3))) 85 4 ((pu_wi (pu_wi (pu_wi (pu_wi D 85 0 (D.1 q1 (Int32.toNatClampNeg 0))) 85 1 ((pu_wi D 85 0 (D.1 q1 (Int32.toNatClampNeg 0))).1 q1 (Int32.toNatClampNeg 1))) 85 2 ((pu_wi (pu_wi D 85 0 (D.1 q1 (Int32.toNatClampNeg 0))) 85 1 ((pu_wi D 85 0 (D.1 q1 (Int32.toNatClampNeg 0))).1 q1 (Int32.toNatClampNeg 1))).1 q1 (Int32.toNatClampNeg 2))) 85 3 ((pu_wi (pu_wi (pu_wi D 85 0 (D.1 q1 (Int32.toNatClampNeg 0))) 85 1 ((pu_wi D 85 0 (D.1 q1 (Int32.toNatClampNeg 0))).1 q1 (Int32.toNatClampNeg 1))) 85 2 ((pu_wi (pu_wi D 85 0 (D.1 q1 (Int32.toNatClampNeg 0))) 85 1 ((pu_wi D 85 0 (D.1 q1 (Int32.toNatClampNeg 0))).1 q1 (Int32.toNatClampNeg 1))).1 q1 (Int32.toNatClampNeg 2))).1 q1 (Int32.toNatClampNeg 3))).1 q1 (Int32.toNatClampNeg 4))).1 q1 (Int32.toNatClampNeg 5))) 85 6 ((pu_wi (pu_wi (pu_wi (pu_wi (pu_wi (pu_wi D 85 0 (D.1 q1 (Int32.toNatClampNeg 0))) 85 1 ((pu_wi D 85 0 (D.1 q1 (Int32.toNatClampNeg 0))).1 q1 (Int32.toNatClampNeg 1))) 85 2 ((pu_wi (pu_wi D 85 0 (D.1 q1 (Int32.toNatClampNeg 0))) 85 1 ((pu_wi D 85 0 (D.1 q1 (Int32.toNatClampNeg 0))).1 q1 (Int32.toNatClampNeg 1))).1 q1 (Int32.toNatClampNeg 2))) 85 3 ((pu_wi (pu_wi (pu_wi D 85 0 (D.1 q1 (Int32.toNatClampNeg 0))) 85 1 ((pu_wi D 85 0 (D.1 q1 (Int32.toNatClampNeg 0))).1 q1 (Int32.toNatClampNeg 1))) 85 2 ((pu_wi (pu_wi D 85 0 (D.1 q1 (Int32.toNatClampNeg 0))) 85 1 ((pu_wi D 85 0 (D.1 q1 (Int32.toNatClampNeg 0))).1 q1 (Int32.toNatClampNeg 1))).1 q1 (Int32.toNatClampNeg 2))).1 q1 (Int32.toNatClampNeg 3))) 85 4 ((pu_wi (pu_wi (pu_wi (pu_wi D 85 0 (D.1 q1 (Int32.toNatClampNeg 0))) 85 1 ((pu_wi D 85 0 (D.1 q1 (Int32.toNatClampNeg 0))).1 q1 (Int32.toNatClampNeg 1))) 85 2 ((pu_wi (pu_wi D 85 0 (D.1 q1 (Int32.toNatClampNeg 0))) 85 1 ((pu_wi D 85 0 (D.1 q1 (Int32.toNatClampNeg 0))).1 q1 (Int32.toNatClampNeg 1))).1 q1 (Int32.toNatClampNeg 2))) 85 3 ((pu_wi (pu_wi (pu_wi D 85 0 (D.1 q1 (Int32.toNatClampNeg 0))) 85 1 ((pu_wi D 85 0 (D.1 q1 (Int32.toNatClampNeg 0))).1 q1 (Int32.toNatClampNeg 1))) 85 2 ((pu_wi (pu_wi D 85 0 (D.1 q1 (Int32.toNatClampNeg 0))) 85 1 ((pu_wi D 85 0 (D.1 q1 (Int32.toNatClampNeg 0))).1 q1 (Int32.toNatClampNeg 1))).1 q1 (Int32.toNatClampNeg 2))).1 q1 (Int32.toNatClampNeg 3))).1 q1 (Int32.toNatClampNeg 4))) 85 5 ((pu_wi (pu_wi (pu_wi (pu_wi (pu_wi D 85 0 (D.1 q1 (Int32.toNatClampNeg 0))) 85 1 ((pu_wi D 85 0 (D.1 q1 (Int32.toNatClampNeg 0))).1 q1 (Int32.toNatClampNeg 1))) 85 2 ((pu_wi (pu_wi D 85 0 (D.1 q1 (Int32.toNatClampNeg 0))) 85 1 ((pu_wi D 85 0 (D.1 q1 (Int32.toNatClampNeg 0))).1 q1 (Int32.toNatClampNeg 1))).1 q1 (Int32.toNatClampNeg 2))) 85 3 ((pu_wi (pu_wi (pu_wi D 85 0 (D.1 q1 (Int32.toNatClampNeg 0))) 85 1 ((pu_wi D 85 0 (D.1 q1 (Int32.toNatClampNeg 0))).1 q1 (Int32.toNatClampNeg 1))) 85 2 ((pu_wi (pu_wi D 85 0 (D.1 q1 (Int32.toNatClampNeg 0))) 85 1 ((pu_wi D 85 0 (D.1 q1 (Int32.toNatClampNeg 0))).1 q1 (Int32.toNatClampNeg 1))).1 q1 (Int32.toNatClampNeg 2))).1 q1 (Int32.toNatClampNeg 3))) 85 4 ((pu_wi (pu_wi (pu_wi (pu_wi D 85 0 (D.1 q1 (Int32.toNatClampNeg 0))) 85 1 ((pu_wi D 85 0 (D.1 q1 (Int32.toNatClampNeg 0))).1 q1 (Int32.toNatClampNeg 1))) 85 2 ((pu_wi (pu_wi D 85 0 (D.1 q1 (Int32.toNatClampNeg 0))) 85 1 ((pu_wi D 85 0 (D.1 q1 (Int32.toNatClampNeg 0))).1 q1 (Int32.toNatClampNeg 1))).1 q1 (Int32.toNatClampNeg 2))) 85 3 ((pu_wi (pu_wi (pu_wi D 85 0 (D.1 q1 (Int32.toNatClampNeg 0))) 85 1 ((pu_wi D 85 0 (D.1 q1 (Int32.toNatClampNeg 0))).1 q1 (Int32.toNatClampNeg 1))) 85 2 ((pu_wi (pu_wi D 85 0 (D.1 q1 (Int32.toNatClampNeg 0))) 85 1 ((pu_wi D 85 0 (D.1 q1 (Int32.toNatClampNeg 0))).1 q1 (Int32.toNatClampNeg 1))).1 q1 (Int32.toNatClampNeg 2))).1 q1 (Int32.toNatClampNeg 3))).1 q1 (Int32.toNatClampNeg 4))).1 q1 (Int32.toNatClampNeg 5))).1 q1 (Int32.toNatClampNeg 6))) 85 7 ((pu_wi (pu_wi (pu_wi (pu_wi (pu_wi (pu_wi (pu_wi D 85 0 (D.1 q1 (Int32.toNatClampNeg 0))) 85 1 ((pu_wi D 85 0 (D.1 q1 (Int32.toNatClampNeg 0))).1 q1 (Int32.toNatClampNeg 1))) 85 2 ((pu_wi (pu_wi D 85 0 (D.1 q1 (Int32.toNatClampNeg 0))) 85 1 ((pu_wi D 85 0 (D.1 q1 (Int32.toNatClampNeg 0))).1 q1 (Int32.toNatClampNeg 1))).1 q1 (Int32.toNatClampNeg 2))) 85 3 ((pu_wi (pu_wi (pu_wi D 85 0 (D.1 q1 (Int32.toNatClampNeg 0))) 85 1 ((pu_wi D 85 0 (D.1 q1 (Int32.toNatClampNeg 0))).1 q1 (Int32.toNatClampNeg 1))) 85 2 ((pu_wi (pu_wi D 85 0 (D.1 q1 (Int32.toNatClampNeg 0))) 85 1 ((pu_wi D 85 0 (D.1 q1 (Int32.toNatClampNeg 0))).1 q1 (Int32.toNatClampNeg 1))).1 q1 (Int32.toNatClampNeg 2))).1 q1 (Int32.toNatClampNeg 3))) 85 4 ((pu_wi (pu_wi (pu_wi (pu_wi D 85 0 (D.1 q1 (Int32.toNatClampNeg 0))) 85 1 ((pu_wi D 85 0 (D.1 q1 (Int32.toNatClampNeg 0))).1 q1 (Int32.toNatClampNeg 1))) 85 2 ((pu_wi (pu_wi D 85 0 (D.1 q1 (Int32.toNatClampNeg 0))) 85 1 ((pu_wi D 85 0 (D.1 q1 (Int32.toNatClampNeg 0))).1 q1 (Int32.toNatClampNeg 1))).1 q1 (Int32.toNatClampNeg 2))) 85 3 ((pu_wi (pu_wi (pu_wi D 85 0 (D.1 q1 (Int32.toNatClampNeg 0))) 85 1 ((pu_wi D 85 0 (D.1 q1 (Int32.toNatClampNeg 0))).1 q1 (Int32.toNatClampNeg 1))) 85 2 ((pu_wi (pu_wi D 85 0 (D.1 q1 (Int32.toNatClampNeg 0))) 85 1 ((pu_wi D 85 0 (D.1 q1 (Int32.toNatClampNeg 0))).1 q1 (Int32.toNatClampNeg 1))).1 q1 (Int32.toNatClampNeg 2))).1 q1 (Int32.toNatClampNeg 3))).1 q1 (Int32.toNatClampNeg 4))) 85 5 ((pu_wi (pu_wi (pu_wi (pu_wi (pu_wi D 85 0 (D.1 q1 (Int32.toNatClampNeg 0))) 85 1 ((pu_wi D 85 0 (D.1 q1 (Int32.toNatClampNeg 0))).1 q1 (Int32.toNatClampNeg 1))) 85 2 ((pu_wi (pu_wi D 85 0 (D.1 q1 (Int32.toNatClampNeg 0))) 85 1 ((pu_wi D 85 0 (D.1 q1 (Int32.toNatClampNeg 0))).1 q1 (Int32.toNatClampNeg 1))).1 q1 (Int32.toNatClampNeg 2))) 85 3 ((pu_wi (pu_wi (pu_wi D 85 0 (D.1 q1 (Int32.toNatClampNeg 0))) 85 1 ((pu_wi D 85 0 (D.1 q1 (Int32.toNatClampNeg 0))).1 q1 (Int32.toNatClampNeg 1))) 85 2 ((pu_wi (pu_wi D 85 0 (D.1 q1 (Int32.toNatClampNeg 0))) 85 1 ((pu_wi D 85 0 (D.1 q1 (Int32.toNatClampNeg 0))).1 q1 (Int32.toNatClampNeg 1))).1 q1 (Int32.toNatClampNeg 2))).1 q1 (Int32.toNatClampNeg 3))) 85 4 ((pu_wi (pu_wi (pu_wi (pu_wi D 85 0 (D.1 q1 (Int32.toNatClampNeg 0))) 85 1 ((pu_wi D 85 0 (D.1 q1 (Int32.toNatClampNeg 0))).1 q1 (Int32.toNatClampNeg 1))) 85 2 ((pu_wi (pu_wi D 85 0 (D.1 q1 (Int32.toNatClampNeg 0))) 85 1 ((pu_wi D 85 0 (D.1 q1 (Int32.toNatClampNeg 0))).1 q1 (Int32.toNatClampNeg 1))).1 q1 (Int32.toNatClampNeg 2))) 85 3 ((pu_wi (pu_wi (pu_wi D 85 0 (D.1 q1 (Int32.toNatClampNeg 0))) 85 1 ((pu_wi D 85 0 (D.1 q1 (Int32.toNatClampNeg 0))).1 q1 (Int32.toNatClampNeg 1))) 85 2 ((pu_wi (pu_wi D 85 0 (D.1 q1 (Int32.toNatClampNeg 0))) 85 1 ((pu_wi D 85 0 (D.1 q1 (Int32.toNatClampNeg 0))).1 q1 (Int32.toNatClampNeg 1))).1 q1 (Int32.toNatClampNeg 2))).1 q1 (Int32.toNatClampNeg 3))).1 q1 (Int32.toNatClampNeg 4))).1 q1 (Int32.toNatClampNeg 5))) 85 6 ((pu_wi (pu_wi (pu_wi (pu_wi (pu_wi (pu_wi D 85 0 (D.1 q1 (Int32.toNatClampNeg 0))) 85 1 ((pu_wi D 85 0 (D.1 q1 (Int32.toNatClampNeg 0))).1 q1 (Int32.toNatClampNeg 1))) 85 2 ((pu_wi (pu_wi D 85 0 (D.1 q1 (Int32.toNatClampNeg 0))) 85 1 ((pu_wi D 85 0 (D.1 q1 (Int32.toNatClampNeg 0))).1 q1 (Int32.toNatClampNeg 1))).1 q1 (Int32.toNatClampNeg 2))) 85 3 ((pu_wi (pu_wi (pu_wi D 85 0 (D.1 q1 (Int32.toNatClampNeg 0))) 85 1 ((pu_wi D 85 0 (D.1 q1 (Int32.toNatClampNeg 0))).1 q1 (Int32.toNatClampNeg 1))) 85 2 ((pu_wi (pu_wi D 85 0 (D.1 q1 (Int32.toNatClampNeg 0))) 85 1 ((pu_wi D 85 0 (D.1 q1 (Int32.toNatClampNeg 0))).1 q1 (Int32.toNatClampNeg 1))).1 q1 (Int32.toNatClampNeg 2))).1 q1 (Int32.toNatClampNeg 3))) 85 4 ((pu_wi (pu_wi (pu_wi (pu_wi D 85 0 (D.1 q1 (Int32.toNatClampNeg 0))) 85 1 ((pu_wi D 85 0 (D.1 q1 (Int32.toNatClampNeg 0))).1 q1 (Int32.toNatClampNeg 1))) 85 2 ((pu_wi (pu_wi D 85 0 (D.1 q1 (Int32.toNatClampNeg 0))) 85 1 ((pu_wi D 85 0 (D.1 q1 (Int32.toNatClampNeg 0))).1 q1 (Int32.toNatClampNeg 1))).1 q1 (Int32.toNatClampNeg 2))) 85 3 ((pu_wi (pu_wi (pu_wi D 85 0 (D.1 q1 (Int32.toNatClampNeg 0))) 85 1 ((pu_wi D 85 0 (D.1 q1 (Int32.toNatClampNeg 0))).1 q1 (Int32.toNatClampNeg 1))) 85 2 ((pu_wi (pu_wi D 85 0 (D.1 q1 (Int32.toNatClampNeg 0))) 85 1 ((pu_wi D 85 0 (D.1 q1 (Int32.toNatClampNeg 0))).1 q1 (Int32.toNatClampNeg 1))).1 q1 (Int32.toNatClampNeg 2))).1 q1 (Int32.toNatClampNeg 3))).1 q1 (Int32.toNatClampNeg 4))) 85 5 ((pu_wi (pu_wi (pu_wi (pu_wi (pu_wi D 85 0 (D.1 q1 (Int32.toNatClampNeg 0))) 85 1 ((pu_wi D 85 0 (D.1 q1 (Int32.toNatClampNeg 0))).1 q1 (Int32.toNatClampNeg 1))) 85 2 ((pu_wi (pu_wi D 85 0 (D.1 q1 (Int32.toNatClampNeg 0))) 85 1 ((pu_wi D 85 0 (D.1 q1 (Int32.toNatClampNeg 0))).1 q1 (Int32.toNatClampNeg 1))).1 q1 (Int32.toNatClampNeg 2))) 85 3 ((pu_wi (pu_wi (pu_wi D 85 0 (D.1 q1 (Int32.toNatClampNeg 0))) 85 1 ((pu_wi D 85 0 (D.1 q1 (Int32.toNatClampNeg 0))).1 q1 (Int32.toNatClampNeg 1))) 85 2 ((pu_wi (pu_wi D 85 0 (D.1 q1 (Int32.toNatClampNeg 0))) 85 1 ((pu_wi D 85 0 (D.1 q1 (Int32.toNatClampNeg 0))).1 q1 (Int32.toNatClampNeg 1))).1 q1 (Int32.toNatClampNeg 2))).1 q1 (Int32.toNatClampNeg 3))) 85 4 ((pu_wi (pu_wi (pu_wi (pu_wi D 85 0 (D.1 q1 (Int32.toNatClampNeg 0))) 85 1 ((pu_wi D 85 0 (D.1 q1 (Int32.toNatClampNeg 0))).1 q1 (Int32.toNatClampNeg 1))) 85 2 ((pu_wi (pu_wi D 85 0 (D.1 q1 (Int32.toNatClampNeg 0))) 85 1 ((pu_wi D 85 0 (D.1 q1 (Int32.toNatClampNeg 0))).1 q1 (Int32.toNatClampNeg 1))).1 q1 (Int32.toNatClampNeg 2))) 85 3 ((pu_wi (pu_wi (pu_wi D 85 0 (D.1 q1 (Int32.toNatClampNeg 0))) 85 1 ((pu_wi D 85 0 (D.1 q1 (Int32.toNatClampNeg 0))).1 q1 (Int32.toNatClampNeg 1))) 85 2 ((pu_wi (pu_wi D 85 0 (D.1 q1 (Int32.toNatClampNeg 0))) 85 1 ((pu_wi D 85 0 (D.1 q1 (Int32.toNatClampNeg 0))).1 q1 (Int32.toNatClampNeg 1))).1 q1 (Int32.toNatClampNeg 2))).1 q1 (Int32.toNatClampNeg 3))).1 q1 (Int32.toNatClampNeg 4))).1 q1 (Int32.toNatClampNeg 5))).1 q1 (Int32.toNatClampNeg 6))).1 q1 (Int32.toNatClampNeg 7))).1 q1 (Int32.toNatClampNeg 8))).1 q1 (Int32.toNatClampNeg 9))).1 q1 (Int32.toNatClampNeg 10))))) :
    pu_V X 191 [.ref 85, .ref q1, .int x2] D P := by
  refine pu_ent (E := [.ref 85, .ref q1, .int x2]) pu_n191.1 pu_n191.2 pu_t191_0 rfl ?_
  refine pu_iload_n rfl ?_
  refine pu_ne0 pu_t191_87 (fun h1 => ?_) (fun h1 => ?_)
  · replace H := pu_f h1 H
    refine pu_aload_n rfl ?_
    refine pu_aload_n rfl ?_
    refine pu_iconst ?_
    refine pu_ial hq1 rfl H.1 ?_
    replace H := H.2
    refine pu_putI pu_p8_0 pu_c85 ?_
    refine pu_aload_n rfl ?_
    refine pu_aload_n rfl ?_
    refine pu_iconst ?_
    refine pu_ial hq1 rfl H.1 ?_
    replace H := H.2
    refine pu_putI pu_p8_1 pu_c85 ?_
    refine pu_aload_n rfl ?_
    refine pu_aload_n rfl ?_
    refine pu_iconst ?_
    refine pu_ial hq1 rfl H.1 ?_
    replace H := H.2
    refine pu_putI pu_p8_2 pu_c85 ?_
    refine pu_aload_n rfl ?_
    refine pu_aload_n rfl ?_
    refine pu_iconst ?_
    refine pu_ial hq1 rfl H.1 ?_
    replace H := H.2
    refine pu_putI pu_p8_3 pu_c85 ?_
    refine pu_aload_n rfl ?_
    refine pu_aload_n rfl ?_
    refine pu_iconst ?_
    refine pu_ial hq1 rfl H.1 ?_
    replace H := H.2
    refine pu_putI pu_p8_4 pu_c85 ?_
    refine pu_aload_n rfl ?_
    refine pu_aload_n rfl ?_
    refine pu_iconst ?_
    refine pu_ial hq1 rfl H.1 ?_
    replace H := H.2
    refine pu_putI pu_p8_5 pu_c85 ?_
    refine pu_aload_n rfl ?_
    refine pu_aload_n rfl ?_
    refine pu_bipush ?_
    refine pu_ial hq1 rfl H.1 ?_
    replace H := H.2
    refine pu_putI pu_p8_6 pu_c85 ?_
    refine pu_aload_n rfl ?_
    refine pu_aload_n rfl ?_
    refine pu_bipush ?_
    refine pu_ial hq1 rfl H.1 ?_
    replace H := H.2
    refine pu_putI pu_p8_7 pu_c85 ?_
    refine pu_aload_n rfl ?_
    refine pu_aload_n rfl ?_
    refine pu_bipush ?_
    refine pu_ial hq1 rfl H.1 ?_
    replace H := H.2
    refine pu_putI pu_p8_8 pu_c85 ?_
    refine pu_aload_n rfl ?_
    refine pu_aload_n rfl ?_
    refine pu_bipush ?_
    refine pu_ial hq1 rfl H.1 ?_
    replace H := H.2
    refine pu_putI pu_p8_9 pu_c85 ?_
    refine pu_aload_n rfl ?_
    refine pu_aload_n rfl ?_
    refine pu_bipush ?_
    refine pu_ial hq1 rfl H.1 ?_
    replace H := H.2
    refine pu_putI pu_p8_10 pu_c85 ?_
    exact pu_vret pu_rt191 H
  · replace H := pu_t h1 H
    refine pu_aload_n rfl ?_
    refine pu_iconst ?_
    refine pu_aload_n rfl ?_
    refine pu_getI pu_k8_0 pu_c85 ?_
    refine pu_ias hq1 rfl H.1 ?_
    replace H := H.2
    refine pu_aload_n rfl ?_
    refine pu_iconst ?_
    refine pu_aload_n rfl ?_
    refine pu_getI pu_k8_1 pu_c85 ?_
    refine pu_ias hq1 rfl H.1 ?_
    replace H := H.2
    refine pu_aload_n rfl ?_
    refine pu_iconst ?_
    refine pu_aload_n rfl ?_
    refine pu_getI pu_k8_2 pu_c85 ?_
    refine pu_ias hq1 rfl H.1 ?_
    replace H := H.2
    refine pu_aload_n rfl ?_
    refine pu_iconst ?_
    refine pu_aload_n rfl ?_
    refine pu_getI pu_k8_3 pu_c85 ?_
    refine pu_ias hq1 rfl H.1 ?_
    replace H := H.2
    refine pu_aload_n rfl ?_
    refine pu_iconst ?_
    refine pu_aload_n rfl ?_
    refine pu_getI pu_k8_4 pu_c85 ?_
    refine pu_ias hq1 rfl H.1 ?_
    replace H := H.2
    refine pu_aload_n rfl ?_
    refine pu_iconst ?_
    refine pu_aload_n rfl ?_
    refine pu_getI pu_k8_5 pu_c85 ?_
    refine pu_ias hq1 rfl H.1 ?_
    replace H := H.2
    refine pu_aload_n rfl ?_
    refine pu_bipush ?_
    refine pu_aload_n rfl ?_
    refine pu_getI pu_k8_6 pu_c85 ?_
    refine pu_ias hq1 rfl H.1 ?_
    replace H := H.2
    refine pu_aload_n rfl ?_
    refine pu_bipush ?_
    refine pu_aload_n rfl ?_
    refine pu_getI pu_k8_7 pu_c85 ?_
    refine pu_ias hq1 rfl H.1 ?_
    replace H := H.2
    refine pu_aload_n rfl ?_
    refine pu_bipush ?_
    refine pu_aload_n rfl ?_
    refine pu_getI pu_k8_8 pu_c85 ?_
    refine pu_ias hq1 rfl H.1 ?_
    replace H := H.2
    refine pu_aload_n rfl ?_
    refine pu_bipush ?_
    refine pu_aload_n rfl ?_
    refine pu_getI pu_k8_9 pu_c85 ?_
    refine pu_ias hq1 rfl H.1 ?_
    replace H := H.2
    refine pu_aload_n rfl ?_
    refine pu_bipush ?_
    refine pu_aload_n rfl ?_
    refine pu_getI pu_k8_10 pu_c85 ?_
    refine pu_ias hq1 rfl H.1 ?_
    replace H := H.2
    exact pu_vret pu_rt191 H
/-- LightAlongModel.street(I)I -/
def pu_h192_62 (X : px_X) (x3 : Int32) (x4 : Int32) (D : pu_D) (P : Int32 → pu_D → Prop) : Prop := ∀ z1 : Value, z1.category = 1 → ∀ z2 : Value, z2.category = 1 → pu_W X 192 (0, 0) px_c192_62 [.ref 85, z1, z2, .int x3, .int x4] [] D (pu_qi P)
theorem pu_u192_62 {X : px_X} {x3 : Int32} {x4 : Int32} {D : pu_D} {P : Int32 → pu_D → Prop} 
    (H : if x4 = 0 then (if x4 = 0 then (pu_V X 191 [.ref 85, .ref 111, .int 1] D (fun D13 => pu_I X 149 [.ref 85, .int (-6)] (pu_wi D13 85 11 (D13.1 85 41)) (fun y14 D15 => P y14 D15))) else (P x3 D)) else (if (D.1 85 38) < (D.1 85 39) then ((px_in ((D.1 85 37) + (D.1 85 38)) 960 = true) ∧ if (Int64.toInt32 (D.2 108 ((D.1 85 37) + (D.1 85 38)).toNatClampNeg)) = 59 then (pu_I X 190 [.ref 85] (pu_wi D 85 38 ((D.1 85 38) + 1)) (fun y23 D24 => pu_h192_62 X (x3 + 1) y23 D24 P)) else (pu_I X 183 [.ref 85, .int (D.1 85 38)] D (fun y25 D26 => pu_h192_62 X x3 y25 D26 P))) else (if x4 = 0 then (pu_V X 191 [.ref 85, .ref 111, .int 1] D (fun D19 => pu_I X 149 [.ref 85, .int (-6)] (pu_wi D19 85 11 (D19.1 85 41)) (fun y20 D21 => P y20 D21))) else (P x3 D)))) :
    pu_h192_62 X x3 x4 D P := by
  intro z1 hz1 z2 hz2
  refine pu_iload rfl ?_
  refine pu_eq0 pu_t192_133 (fun h10 => ?_) (fun h10 => ?_)
  · replace H := pu_t h10 H
    refine pu_iload rfl ?_
    refine pu_eq0 pu_t192_140 (fun h11 => ?_) (fun h11 => ?_)
    · replace H := pu_t h11 H
      refine pu_aload_n rfl ?_
      refine pu_aload_n rfl ?_
      refine pu_getR pu_kr8_42 pu_c85 pu_r85_42 ?_
      refine pu_iconst ?_
      refine pu_cv (vs := [.ref 111, .int 1]) (rest := []) pu_g191 ⟨pu_c85, by decide⟩ rfl rfl rfl rfl rfl (pu_CV (pu_V_imp H (fun D13 H => ?_)))
      refine pu_aload_n rfl ?_
      refine pu_aload_n rfl ?_
      refine pu_getI pu_k8_41 pu_c85 ?_
      refine pu_putI pu_p8_11 pu_c85 ?_
      refine pu_aload_n rfl ?_
      refine pu_bipush ?_
      refine pu_cv (vs := [.int (-6)]) (rest := []) pu_g149 ⟨pu_c85, by decide⟩ rfl rfl rfl rfl rfl (pu_CI (pu_I_imp H (fun y14 D15 H => ?_)))
      exact pu_iretI pu_rt192 H
    · replace H := pu_f h11 H
      refine pu_iload_n rfl ?_
      exact pu_iretI pu_rt192 H
  · replace H := pu_f h10 H
    refine pu_aload_n rfl ?_
    refine pu_getI pu_k8_38 pu_c85 ?_
    refine pu_aload_n rfl ?_
    refine pu_getI pu_k8_39 pu_c85 ?_
    refine pu_ge_ pu_t192_133 (fun h16 => ?_) (fun h16 => ?_)
    · replace H := pu_f h16 H
      refine pu_iload rfl ?_
      refine pu_eq0 pu_t192_140 (fun h17 => ?_) (fun h17 => ?_)
      · replace H := pu_t h17 H
        refine pu_aload_n rfl ?_
        refine pu_aload_n rfl ?_
        refine pu_getR pu_kr8_42 pu_c85 pu_r85_42 ?_
        refine pu_iconst ?_
        refine pu_cv (vs := [.ref 111, .int 1]) (rest := []) pu_g191 ⟨pu_c85, by decide⟩ rfl rfl rfl rfl rfl (pu_CV (pu_V_imp H (fun D19 H => ?_)))
        refine pu_aload_n rfl ?_
        refine pu_aload_n rfl ?_
        refine pu_getI pu_k8_41 pu_c85 ?_
        refine pu_putI pu_p8_11 pu_c85 ?_
        refine pu_aload_n rfl ?_
        refine pu_bipush ?_
        refine pu_cv (vs := [.int (-6)]) (rest := []) pu_g149 ⟨pu_c85, by decide⟩ rfl rfl rfl rfl rfl (pu_CI (pu_I_imp H (fun y20 D21 H => ?_)))
        exact pu_iretI pu_rt192 H
      · replace H := pu_f h17 H
        refine pu_iload_n rfl ?_
        exact pu_iretI pu_rt192 H
    · replace H := pu_t h16 H
      refine pu_aload_n rfl ?_
      refine pu_getR pu_kr8_34 pu_c85 pu_r85_34 ?_
      refine pu_aload_n rfl ?_
      refine pu_getI pu_k8_37 pu_c85 ?_
      refine pu_aload_n rfl ?_
      refine pu_getI pu_k8_38 pu_c85 ?_
      refine pu_iadd ?_
      refine pu_lal pu_c108 pu_ln108 H.1 ?_
      replace H := H.2
      refine pu_l2i ?_
      refine pu_bipush ?_
      refine pu_eq_ pu_t192_111 (fun h22 => ?_) (fun h22 => ?_)
      · replace H := pu_t h22 H
        refine pu_aload_n rfl ?_
        refine pu_dup rfl ?_
        refine pu_getI pu_k8_38 pu_c85 ?_
        refine pu_iconst ?_
        refine pu_iadd ?_
        refine pu_putI pu_p8_38 pu_c85 ?_
        refine pu_iinc (L' := [.ref 85, z1, z2, .int (x3 + 1), .int x4]) rfl (Or.inr hz2) rfl ?_
        refine pu_aload_n rfl ?_
        refine pu_cv (vs := []) (rest := []) pu_g190 ⟨pu_c85, by decide⟩ rfl rfl rfl rfl rfl (pu_CI (pu_I_imp H (fun y23 D24 H => ?_)))
        refine pu_istore (L' := [.ref 85, z1, z2, .int (x3 + 1), .int y23]) (Or.inr rfl) rfl ?_
        refine pu_goto pu_t192_62 ?_
        exact H _ hz1 _ hz2
      · replace H := pu_f h22 H
        refine pu_aload_n rfl ?_
        refine pu_aload_n rfl ?_
        refine pu_getI pu_k8_38 pu_c85 ?_
        refine pu_cv (vs := [.int (D.1 85 38)]) (rest := []) pu_g183 ⟨pu_c85, by decide⟩ rfl rfl rfl rfl rfl (pu_CI (pu_I_imp H (fun y25 D26 H => ?_)))
        refine pu_istore (L' := [.ref 85, z1, z2, .int x3, .int y25]) (Or.inr rfl) rfl ?_
        refine pu_goto pu_t192_62 ?_
        exact H _ hz1 _ hz2
theorem pu_e192 {X : px_X} {x1 : Int32} {D : pu_D} {P : Int32 → pu_D → Prop} 
    (H : pu_I X 166 [.ref 85, .int x1, .int 1] D (fun y1 D2 => if y1 = 0 then (pu_V X 191 [.ref 85, .ref 111, .int 0] D2 (fun D5 => (px_in x1 8 = true) ∧ pu_I X 190 [.ref 85] (pu_wi (pu_wi (pu_wi (pu_wi D5 85 37 (120 * x1)) 85 38 0) 85 39 ((pu_wi (pu_wi D5 85 37 (120 * x1)) 85 38 0).1 105 x1.toNatClampNeg)) 85 11 (-1)) (fun y6 D7 => pu_h192_62 X 1 y6 D7 P))) else (pu_I X 149 [.ref 85, .int y1] D2 (fun y8 D9 => P y8 D9)))) :
    pu_I X 192 [.ref 85, .int x1] D P := by
  refine pu_ent (E := [.ref 85, .int x1, .null, .null, .null]) pu_n192.1 pu_n192.2 pu_t192_0 rfl ?_
  refine pu_aload_n rfl ?_
  refine pu_iload_n rfl ?_
  refine pu_iconst ?_
  refine pu_cv (vs := [.int x1, .int 1]) (rest := []) pu_g166 ⟨pu_c85, by decide⟩ rfl rfl rfl rfl rfl (pu_CI (pu_I_imp H (fun y1 D2 H => ?_)))
  refine pu_istore_n (L' := [.ref 85, .int x1, .int y1, .null, .null]) (Or.inr rfl) rfl ?_
  refine pu_iload_n rfl ?_
  refine pu_eq0 pu_t192_17 (fun h3 => ?_) (fun h3 => ?_)
  · replace H := pu_t h3 H
    refine pu_aload_n rfl ?_
    refine pu_aload_n rfl ?_
    refine pu_getR pu_kr8_42 pu_c85 pu_r85_42 ?_
    refine pu_iconst ?_
    refine pu_cv (vs := [.ref 111, .int 0]) (rest := []) pu_g191 ⟨pu_c85, by decide⟩ rfl rfl rfl rfl rfl (pu_CV (pu_V_imp H (fun D5 H => ?_)))
    refine pu_aload_n rfl ?_
    refine pu_bipush ?_
    refine pu_iload_n rfl ?_
    refine pu_imul ?_
    refine pu_putI pu_p8_37 pu_c85 ?_
    refine pu_aload_n rfl ?_
    refine pu_iconst ?_
    refine pu_putI pu_p8_38 pu_c85 ?_
    refine pu_aload_n rfl ?_
    refine pu_aload_n rfl ?_
    refine pu_getR pu_kr8_31 pu_c85 pu_r85_31 ?_
    refine pu_iload_n rfl ?_
    refine pu_ial pu_c105 pu_ln105 H.1 ?_
    replace H := H.2
    refine pu_putI pu_p8_39 pu_c85 ?_
    refine pu_aload_n rfl ?_
    refine pu_iconst ?_
    refine pu_putI pu_p8_11 pu_c85 ?_
    refine pu_iconst ?_
    refine pu_istore_n (L' := [.ref 85, .int x1, .int y1, .int 1, .null]) (Or.inr rfl) rfl ?_
    refine pu_aload_n rfl ?_
    refine pu_cv (vs := []) (rest := []) pu_g190 ⟨pu_c85, by decide⟩ rfl rfl rfl rfl rfl (pu_CI (pu_I_imp H (fun y6 D7 H => ?_)))
    refine pu_istore (L' := [.ref 85, .int x1, .int y1, .int 1, .int y6]) (Or.inr rfl) rfl ?_
    exact H _ rfl _ rfl
  · replace H := pu_f h3 H
    refine pu_aload_n rfl ?_
    refine pu_iload_n rfl ?_
    refine pu_cv (vs := [.int y1]) (rest := []) pu_g149 ⟨pu_c85, by decide⟩ rfl rfl rfl rfl rfl (pu_CI (pu_I_imp H (fun y8 D9 H => ?_)))
    exact pu_iretI pu_rt192 H
/-- LightAlongModel.fault()I -/
theorem pu_e193 {X : px_X}  {D : pu_D} {P : Int32 → pu_D → Prop} 
    (H : P (D.1 85 11) D) :
    pu_I X 193 [.ref 85] D P := by
  refine pu_ent (E := [.ref 85]) pu_n193.1 pu_n193.2 pu_t193_0 rfl ?_
  refine pu_aload_n rfl ?_
  refine pu_getI pu_k8_11 pu_c85 ?_
  exact pu_iretI pu_rt193 H
/-- LightAlongModel.sortOf(II)I -/
theorem pu_e194 {X : px_X} {x1 : Int32} {x2 : Int32} {D : pu_D} {P : Int32 → pu_D → Prop} 
    (H : pu_I X 153 [.ref 85, .int x1] D (fun y1 D2 => if y1 = 0 then (pu_I X 149 [.ref 85, .int (-5)] D2 (fun y4 D5 => P y4 D5)) else (if x2 < 0 then (pu_I X 149 [.ref 85, .int (-5)] D2 (fun y7 D8 => P y7 D8)) else (if 3 < x2 then (pu_I X 149 [.ref 85, .int (-5)] D2 (fun y13 D14 => P y13 D14)) else (if x2 = 0 then ((px_in x1 6 = true) ∧ P (D2.1 87 x1.toNatClampNeg) D2) else (if x2 = 1 then ((px_in x1 6 = true) ∧ P (D2.1 88 x1.toNatClampNeg) D2) else (if x2 = 2 then ((px_in x1 6 = true) ∧ P (D2.1 89 x1.toNatClampNeg) D2) else ((px_in x1 6 = true) ∧ P (D2.1 90 x1.toNatClampNeg) D2)))))))) :
    pu_I X 194 [.ref 85, .int x1, .int x2] D P := by
  refine pu_ent (E := [.ref 85, .int x1, .int x2]) pu_n194.1 pu_n194.2 pu_t194_0 rfl ?_
  refine pu_aload_n rfl ?_
  refine pu_iload_n rfl ?_
  refine pu_cv (vs := [.int x1]) (rest := []) pu_g153 ⟨pu_c85, by decide⟩ rfl rfl rfl rfl rfl (pu_CI (pu_I_imp H (fun y1 D2 H => ?_)))
  refine pu_eq0 pu_t194_17 (fun h3 => ?_) (fun h3 => ?_)
  · replace H := pu_t h3 H
    refine pu_aload_n rfl ?_
    refine pu_bipush ?_
    refine pu_cv (vs := [.int (-5)]) (rest := []) pu_g149 ⟨pu_c85, by decide⟩ rfl rfl rfl rfl rfl (pu_CI (pu_I_imp H (fun y4 D5 H => ?_)))
    exact pu_iretI pu_rt194 H
  · replace H := pu_f h3 H
    refine pu_iload_n rfl ?_
    refine pu_lt0 pu_t194_17 (fun h6 => ?_) (fun h6 => ?_)
    · replace H := pu_t h6 H
      refine pu_aload_n rfl ?_
      refine pu_bipush ?_
      refine pu_cv (vs := [.int (-5)]) (rest := []) pu_g149 ⟨pu_c85, by decide⟩ rfl rfl rfl rfl rfl (pu_CI (pu_I_imp H (fun y7 D8 H => ?_)))
      exact pu_iretI pu_rt194 H
    · replace H := pu_f h6 H
      refine pu_iload_n rfl ?_
      refine pu_iconst ?_
      refine pu_le_ pu_t194_24 (fun h9 => ?_) (fun h9 => ?_)
      · replace H := pu_f h9 H
        refine pu_iload_n rfl ?_
        refine pu_ne0 pu_t194_37 (fun h10 => ?_) (fun h10 => ?_)
        · replace H := pu_f h10 H
          refine pu_iload_n rfl ?_
          refine pu_iconst ?_
          refine pu_ne_ pu_t194_51 (fun h11 => ?_) (fun h11 => ?_)
          · replace H := pu_f h11 H
            refine pu_iload_n rfl ?_
            refine pu_iconst ?_
            refine pu_ne_ pu_t194_65 (fun h12 => ?_) (fun h12 => ?_)
            · replace H := pu_f h12 H
              refine pu_aload_n rfl ?_
              refine pu_getR pu_kr8_16 pu_c85 pu_r85_16 ?_
              refine pu_iload_n rfl ?_
              refine pu_ial pu_c90 pu_ln90 H.1 ?_
              replace H := H.2
              exact pu_iretI pu_rt194 H
            · replace H := pu_t h12 H
              refine pu_aload_n rfl ?_
              refine pu_getR pu_kr8_15 pu_c85 pu_r85_15 ?_
              refine pu_iload_n rfl ?_
              refine pu_ial pu_c89 pu_ln89 H.1 ?_
              replace H := H.2
              refine pu_goto pu_t194_71 ?_
              exact pu_iretI pu_rt194 H
          · replace H := pu_t h11 H
            refine pu_aload_n rfl ?_
            refine pu_getR pu_kr8_14 pu_c85 pu_r85_14 ?_
            refine pu_iload_n rfl ?_
            refine pu_ial pu_c88 pu_ln88 H.1 ?_
            replace H := H.2
            refine pu_goto pu_t194_71 ?_
            exact pu_iretI pu_rt194 H
        · replace H := pu_t h10 H
          refine pu_aload_n rfl ?_
          refine pu_getR pu_kr8_13 pu_c85 pu_r85_13 ?_
          refine pu_iload_n rfl ?_
          refine pu_ial pu_c87 pu_ln87 H.1 ?_
          replace H := H.2
          refine pu_goto pu_t194_71 ?_
          exact pu_iretI pu_rt194 H
      · replace H := pu_t h9 H
        refine pu_aload_n rfl ?_
        refine pu_bipush ?_
        refine pu_cv (vs := [.int (-5)]) (rest := []) pu_g149 ⟨pu_c85, by decide⟩ rfl rfl rfl rfl rfl (pu_CI (pu_I_imp H (fun y13 D14 H => ?_)))
        exact pu_iretI pu_rt194 H
/-- LightAlongModel.placeOf(II)I -/
theorem pu_e195 {X : px_X} {x1 : Int32} {x2 : Int32} {D : pu_D} {P : Int32 → pu_D → Prop} 
    (H : pu_I X 154 [.ref 85, .int x1] D (fun y1 D2 => if y1 = 0 then (pu_I X 149 [.ref 85, .int (-5)] D2 (fun y4 D5 => P y4 D5)) else (if x2 < 0 then (pu_I X 149 [.ref 85, .int (-5)] D2 (fun y7 D8 => P y7 D8)) else (if 3 < x2 then (pu_I X 149 [.ref 85, .int (-5)] D2 (fun y13 D14 => P y13 D14)) else (if x2 = 0 then ((px_in x1 9 = true) ∧ P (D2.1 91 x1.toNatClampNeg) D2) else (if x2 = 1 then ((px_in x1 9 = true) ∧ P (D2.1 92 x1.toNatClampNeg) D2) else (if x2 = 2 then ((px_in x1 9 = true) ∧ P (D2.1 93 x1.toNatClampNeg) D2) else ((px_in x1 9 = true) ∧ P (D2.1 94 x1.toNatClampNeg) D2)))))))) :
    pu_I X 195 [.ref 85, .int x1, .int x2] D P := by
  refine pu_ent (E := [.ref 85, .int x1, .int x2]) pu_n195.1 pu_n195.2 pu_t195_0 rfl ?_
  refine pu_aload_n rfl ?_
  refine pu_iload_n rfl ?_
  refine pu_cv (vs := [.int x1]) (rest := []) pu_g154 ⟨pu_c85, by decide⟩ rfl rfl rfl rfl rfl (pu_CI (pu_I_imp H (fun y1 D2 H => ?_)))
  refine pu_eq0 pu_t195_17 (fun h3 => ?_) (fun h3 => ?_)
  · replace H := pu_t h3 H
    refine pu_aload_n rfl ?_
    refine pu_bipush ?_
    refine pu_cv (vs := [.int (-5)]) (rest := []) pu_g149 ⟨pu_c85, by decide⟩ rfl rfl rfl rfl rfl (pu_CI (pu_I_imp H (fun y4 D5 H => ?_)))
    exact pu_iretI pu_rt195 H
  · replace H := pu_f h3 H
    refine pu_iload_n rfl ?_
    refine pu_lt0 pu_t195_17 (fun h6 => ?_) (fun h6 => ?_)
    · replace H := pu_t h6 H
      refine pu_aload_n rfl ?_
      refine pu_bipush ?_
      refine pu_cv (vs := [.int (-5)]) (rest := []) pu_g149 ⟨pu_c85, by decide⟩ rfl rfl rfl rfl rfl (pu_CI (pu_I_imp H (fun y7 D8 H => ?_)))
      exact pu_iretI pu_rt195 H
    · replace H := pu_f h6 H
      refine pu_iload_n rfl ?_
      refine pu_iconst ?_
      refine pu_le_ pu_t195_24 (fun h9 => ?_) (fun h9 => ?_)
      · replace H := pu_f h9 H
        refine pu_iload_n rfl ?_
        refine pu_ne0 pu_t195_37 (fun h10 => ?_) (fun h10 => ?_)
        · replace H := pu_f h10 H
          refine pu_iload_n rfl ?_
          refine pu_iconst ?_
          refine pu_ne_ pu_t195_51 (fun h11 => ?_) (fun h11 => ?_)
          · replace H := pu_f h11 H
            refine pu_iload_n rfl ?_
            refine pu_iconst ?_
            refine pu_ne_ pu_t195_65 (fun h12 => ?_) (fun h12 => ?_)
            · replace H := pu_f h12 H
              refine pu_aload_n rfl ?_
              refine pu_getR pu_kr8_20 pu_c85 pu_r85_20 ?_
              refine pu_iload_n rfl ?_
              refine pu_ial pu_c94 pu_ln94 H.1 ?_
              replace H := H.2
              exact pu_iretI pu_rt195 H
            · replace H := pu_t h12 H
              refine pu_aload_n rfl ?_
              refine pu_getR pu_kr8_19 pu_c85 pu_r85_19 ?_
              refine pu_iload_n rfl ?_
              refine pu_ial pu_c93 pu_ln93 H.1 ?_
              replace H := H.2
              refine pu_goto pu_t195_71 ?_
              exact pu_iretI pu_rt195 H
          · replace H := pu_t h11 H
            refine pu_aload_n rfl ?_
            refine pu_getR pu_kr8_18 pu_c85 pu_r85_18 ?_
            refine pu_iload_n rfl ?_
            refine pu_ial pu_c92 pu_ln92 H.1 ?_
            replace H := H.2
            refine pu_goto pu_t195_71 ?_
            exact pu_iretI pu_rt195 H
        · replace H := pu_t h10 H
          refine pu_aload_n rfl ?_
          refine pu_getR pu_kr8_17 pu_c85 pu_r85_17 ?_
          refine pu_iload_n rfl ?_
          refine pu_ial pu_c91 pu_ln91 H.1 ?_
          replace H := H.2
          refine pu_goto pu_t195_71 ?_
          exact pu_iretI pu_rt195 H
      · replace H := pu_t h9 H
        refine pu_aload_n rfl ?_
        refine pu_bipush ?_
        refine pu_cv (vs := [.int (-5)]) (rest := []) pu_g149 ⟨pu_c85, by decide⟩ rfl rfl rfl rfl rfl (pu_CI (pu_I_imp H (fun y13 D14 H => ?_)))
        exact pu_iretI pu_rt195 H
/-- LightAlongModel.lamp(II)I -/
theorem pu_e196 {X : px_X} {x1 : Int32} {x2 : Int32} {D : pu_D} {P : Int32 → pu_D → Prop} 
    (H : pu_I X 154 [.ref 85, .int x1] D (fun y1 D2 => if y1 = 0 then (pu_I X 150 [.ref 85, .int (-1)] D2 (fun y4 D5 => P y4 D5)) else (if x2 = (-1) then ((px_in x1 9 = true) ∧ (px_in x1 9 = true) ∧ (px_in x1 9 = true) ∧ P (D2.1 93 x1.toNatClampNeg) (pu_wi (pu_wi D2 93 x1.toNatClampNeg x2) 94 x1.toNatClampNeg 0)) else (pu_I X 153 [.ref 85, .int x2] D2 (fun y7 D8 => if y7 = 0 then (pu_I X 150 [.ref 85, .int (-1)] D8 (fun y10 D11 => P y10 D11)) else ((px_in x1 9 = true) ∧ (px_in x1 9 = true) ∧ (px_in x1 9 = true) ∧ P (D8.1 93 x1.toNatClampNeg) (pu_wi (pu_wi D8 93 x1.toNatClampNeg x2) 94 x1.toNatClampNeg 0))))))) :
    pu_I X 196 [.ref 85, .int x1, .int x2] D P := by
  refine pu_ent (E := [.ref 85, .int x1, .int x2, .null]) pu_n196.1 pu_n196.2 pu_t196_0 rfl ?_
  refine pu_aload_n rfl ?_
  refine pu_iload_n rfl ?_
  refine pu_cv (vs := [.int x1]) (rest := []) pu_g154 ⟨pu_c85, by decide⟩ rfl rfl rfl rfl rfl (pu_CI (pu_I_imp H (fun y1 D2 H => ?_)))
  refine pu_eq0 pu_t196_21 (fun h3 => ?_) (fun h3 => ?_)
  · replace H := pu_t h3 H
    refine pu_aload_n rfl ?_
    refine pu_iconst ?_
    refine pu_cv (vs := [.int (-1)]) (rest := []) pu_g150 ⟨pu_c85, by decide⟩ rfl rfl rfl rfl rfl (pu_CI (pu_I_imp H (fun y4 D5 H => ?_)))
    exact pu_iretI pu_rt196 H
  · replace H := pu_f h3 H
    refine pu_iload_n rfl ?_
    refine pu_iconst ?_
    refine pu_eq_ pu_t196_27 (fun h6 => ?_) (fun h6 => ?_)
    · replace H := pu_t h6 H
      refine pu_aload_n rfl ?_
      refine pu_getR pu_kr8_19 pu_c85 pu_r85_19 ?_
      refine pu_iload_n rfl ?_
      refine pu_ial pu_c93 pu_ln93 H.1 ?_
      replace H := H.2
      refine pu_istore_n (L' := [.ref 85, .int x1, .int x2, .int (D2.1 93 x1.toNatClampNeg)]) (Or.inr rfl) rfl ?_
      refine pu_aload_n rfl ?_
      refine pu_getR pu_kr8_19 pu_c85 pu_r85_19 ?_
      refine pu_iload_n rfl ?_
      refine pu_iload_n rfl ?_
      refine pu_ias pu_c93 pu_ln93 H.1 ?_
      replace H := H.2
      refine pu_aload_n rfl ?_
      refine pu_getR pu_kr8_20 pu_c85 pu_r85_20 ?_
      refine pu_iload_n rfl ?_
      refine pu_iconst ?_
      refine pu_ias pu_c94 pu_ln94 H.1 ?_
      replace H := H.2
      refine pu_iload_n rfl ?_
      exact pu_iretI pu_rt196 H
    · replace H := pu_f h6 H
      refine pu_aload_n rfl ?_
      refine pu_iload_n rfl ?_
      refine pu_cv (vs := [.int x2]) (rest := []) pu_g153 ⟨pu_c85, by decide⟩ rfl rfl rfl rfl rfl (pu_CI (pu_I_imp H (fun y7 D8 H => ?_)))
      refine pu_ne0 pu_t196_27 (fun h9 => ?_) (fun h9 => ?_)
      · replace H := pu_f h9 H
        refine pu_aload_n rfl ?_
        refine pu_getR pu_kr8_19 pu_c85 pu_r85_19 ?_
        refine pu_iload_n rfl ?_
        refine pu_ial pu_c93 pu_ln93 H.1 ?_
        replace H := H.2
        refine pu_istore_n (L' := [.ref 85, .int x1, .int x2, .int (D8.1 93 x1.toNatClampNeg)]) (Or.inr rfl) rfl ?_
        refine pu_aload_n rfl ?_
        refine pu_getR pu_kr8_19 pu_c85 pu_r85_19 ?_
        refine pu_iload_n rfl ?_
        refine pu_iload_n rfl ?_
        refine pu_ias pu_c93 pu_ln93 H.1 ?_
        replace H := H.2
        refine pu_aload_n rfl ?_
        refine pu_getR pu_kr8_20 pu_c85 pu_r85_20 ?_
        refine pu_iload_n rfl ?_
        refine pu_iconst ?_
        refine pu_ias pu_c94 pu_ln94 H.1 ?_
        replace H := H.2
        refine pu_iload_n rfl ?_
        exact pu_iretI pu_rt196 H
      · replace H := pu_t h9 H
        refine pu_aload_n rfl ?_
        refine pu_iconst ?_
        refine pu_cv (vs := [.int (-1)]) (rest := []) pu_g150 ⟨pu_c85, by decide⟩ rfl rfl rfl rfl rfl (pu_CI (pu_I_imp H (fun y10 D11 H => ?_)))
        exact pu_iretI pu_rt196 H
/-- LightAlongModel.out(IZ)I -/
theorem pu_e197 {X : px_X} {x1 : Int32} {x2 : Int32} {D : pu_D} {P : Int32 → pu_D → Prop} 
    (H : pu_I X 154 [.ref 85, .int x1] D (fun y1 D2 => if y1 = 0 then (pu_I X 149 [.ref 85, .int (-1)] D2 (fun y10 D11 => P y10 D11)) else ((px_in x1 9 = true) ∧ if (D2.1 93 x1.toNatClampNeg) = (-1) then (pu_I X 149 [.ref 85, .int (-6)] D2 (fun y8 D9 => P y8 D9)) else (if x2 = 0 then ((px_in x1 9 = true) ∧ if (D2.1 94 x1.toNatClampNeg) = 0 then (P 0 D2) else ((px_in x1 9 = true) ∧ P 1 (pu_wi D2 94 x1.toNatClampNeg 0))) else ((px_in x1 9 = true) ∧ if (D2.1 94 x1.toNatClampNeg) = 1 then (P 0 D2) else ((px_in x1 9 = true) ∧ P 1 (pu_wi D2 94 x1.toNatClampNeg 1))))))) :
    pu_I X 197 [.ref 85, .int x1, .int x2] D P := by
  refine pu_ent (E := [.ref 85, .int x1, .int x2, .null]) pu_n197.1 pu_n197.2 pu_t197_0 rfl ?_
  refine pu_aload_n rfl ?_
  refine pu_iload_n rfl ?_
  refine pu_cv (vs := [.int x1]) (rest := []) pu_g154 ⟨pu_c85, by decide⟩ rfl rfl rfl rfl rfl (pu_CI (pu_I_imp H (fun y1 D2 H => ?_)))
  refine pu_ne0 pu_t197_14 (fun h3 => ?_) (fun h3 => ?_)
  · replace H := pu_f h3 H
    refine pu_aload_n rfl ?_
    refine pu_getR pu_kr8_19 pu_c85 pu_r85_19 ?_
    refine pu_iload_n rfl ?_
    refine pu_ial pu_c93 pu_ln93 H.1 ?_
    replace H := H.2
    refine pu_iconst ?_
    refine pu_ne_ pu_t197_31 (fun h4 => ?_) (fun h4 => ?_)
    · replace H := pu_f h4 H
      refine pu_iload_n rfl ?_
      refine pu_eq0 pu_t197_39 (fun h5 => ?_) (fun h5 => ?_)
      · replace H := pu_t h5 H
        refine pu_iconst ?_
        refine pu_istore_n (L' := [.ref 85, .int x1, .int x2, .int 0]) (Or.inr rfl) rfl ?_
        refine pu_aload_n rfl ?_
        refine pu_getR pu_kr8_20 pu_c85 pu_r85_20 ?_
        refine pu_iload_n rfl ?_
        refine pu_ial pu_c94 pu_ln94 H.1 ?_
        replace H := H.2
        refine pu_iload_n rfl ?_
        refine pu_ne_ pu_t197_53 (fun h6 => ?_) (fun h6 => ?_)
        · replace H := pu_f h6 H
          refine pu_aload_n rfl ?_
          refine pu_getR pu_kr8_20 pu_c85 pu_r85_20 ?_
          refine pu_iload_n rfl ?_
          refine pu_iload_n rfl ?_
          refine pu_ias pu_c94 pu_ln94 H.1 ?_
          replace H := H.2
          refine pu_iconst ?_
          exact pu_iretI pu_rt197 H
        · replace H := pu_t h6 H
          refine pu_iconst ?_
          exact pu_iretI pu_rt197 H
      · replace H := pu_f h5 H
        refine pu_iconst ?_
        refine pu_goto pu_t197_40 ?_
        refine pu_istore_n (L' := [.ref 85, .int x1, .int x2, .int 1]) (Or.inr rfl) rfl ?_
        refine pu_aload_n rfl ?_
        refine pu_getR pu_kr8_20 pu_c85 pu_r85_20 ?_
        refine pu_iload_n rfl ?_
        refine pu_ial pu_c94 pu_ln94 H.1 ?_
        replace H := H.2
        refine pu_iload_n rfl ?_
        refine pu_ne_ pu_t197_53 (fun h7 => ?_) (fun h7 => ?_)
        · replace H := pu_f h7 H
          refine pu_aload_n rfl ?_
          refine pu_getR pu_kr8_20 pu_c85 pu_r85_20 ?_
          refine pu_iload_n rfl ?_
          refine pu_iload_n rfl ?_
          refine pu_ias pu_c94 pu_ln94 H.1 ?_
          replace H := H.2
          refine pu_iconst ?_
          exact pu_iretI pu_rt197 H
        · replace H := pu_t h7 H
          refine pu_iconst ?_
          exact pu_iretI pu_rt197 H
    · replace H := pu_t h4 H
      refine pu_aload_n rfl ?_
      refine pu_bipush ?_
      refine pu_cv (vs := [.int (-6)]) (rest := []) pu_g149 ⟨pu_c85, by decide⟩ rfl rfl rfl rfl rfl (pu_CI (pu_I_imp H (fun y8 D9 H => ?_)))
      exact pu_iretI pu_rt197 H
  · replace H := pu_t h3 H
    refine pu_aload_n rfl ?_
    refine pu_iconst ?_
    refine pu_cv (vs := [.int (-1)]) (rest := []) pu_g149 ⟨pu_c85, by decide⟩ rfl rfl rfl rfl rfl (pu_CI (pu_I_imp H (fun y10 D11 H => ?_)))
    exact pu_iretI pu_rt197 H
/-- LightAlongModel.lamps()I -/
def pu_h198_4 (X : px_X) (x1 : Int32) (x2 : Int32) (D : pu_D) (P : Int32 → pu_D → Prop) : Prop := pu_W X 198 (0, 0) px_c198_4 [.ref 85, .int x1, .int x2] [] D (pu_qi P)
theorem pu_u198_4 {X : px_X} {x1 : Int32} {x2 : Int32} {D : pu_D} {P : Int32 → pu_D → Prop} 
    (H : if x2 < (D.1 85 1) then ((px_in x2 9 = true) ∧ if (D.1 93 x2.toNatClampNeg) = (-1) then (pu_h198_4 X x1 (x2 + 1) D P) else (pu_h198_4 X (x1 ||| (1 <<< (x2 &&& 31))) (x2 + 1) D P)) else (P x1 D)) :
    pu_h198_4 X x1 x2 D P := by
  refine pu_iload_n rfl ?_
  refine pu_aload_n rfl ?_
  refine pu_getI pu_k8_1 pu_c85 ?_
  refine pu_ge_ pu_t198_34 (fun h1 => ?_) (fun h1 => ?_)
  · replace H := pu_f h1 H
    refine pu_iload_n rfl ?_
    exact pu_iretI pu_rt198 H
  · replace H := pu_t h1 H
    refine pu_aload_n rfl ?_
    refine pu_getR pu_kr8_19 pu_c85 pu_r85_19 ?_
    refine pu_iload_n rfl ?_
    refine pu_ial pu_c93 pu_ln93 H.1 ?_
    replace H := H.2
    refine pu_iconst ?_
    refine pu_eq_ pu_t198_28 (fun h2 => ?_) (fun h2 => ?_)
    · replace H := pu_t h2 H
      refine pu_iinc (L' := [.ref 85, .int x1, .int (x2 + 1)]) rfl (Or.inr rfl) rfl ?_
      refine pu_goto pu_t198_4 ?_
      exact H 
    · replace H := pu_f h2 H
      refine pu_iload_n rfl ?_
      refine pu_iconst ?_
      refine pu_iload_n rfl ?_
      refine pu_ishl ?_
      refine pu_ior ?_
      refine pu_istore_n (L' := [.ref 85, .int (x1 ||| (1 <<< (x2 &&& 31))), .int x2]) (Or.inr rfl) rfl ?_
      refine pu_iinc (L' := [.ref 85, .int (x1 ||| (1 <<< (x2 &&& 31))), .int (x2 + 1)]) rfl (Or.inr rfl) rfl ?_
      refine pu_goto pu_t198_4 ?_
      exact H 
theorem pu_e198 {X : px_X}  {D : pu_D} {P : Int32 → pu_D → Prop} 
    (H : pu_h198_4 X 0 0 D P) :
    pu_I X 198 [.ref 85] D P := by
  refine pu_ent (E := [.ref 85, .null, .null]) pu_n198.1 pu_n198.2 pu_t198_0 rfl ?_
  refine pu_iconst ?_
  refine pu_istore_n (L' := [.ref 85, .int 0, .null]) (Or.inr rfl) rfl ?_
  refine pu_iconst ?_
  refine pu_istore_n (L' := [.ref 85, .int 0, .int 0]) (Or.inr rfl) rfl ?_
  exact H 
/-- LightAlongModel.leaves(I)I -/
theorem pu_e199 {X : px_X} {x1 : Int32} {D : pu_D} {P : Int32 → pu_D → Prop} 
    (H : if x1 = 3 then (P 1 D) else (if x1 = 9 then (P 1 D) else (if x1 = 4 then (P 2 D) else (if x1 = 8 then (P 2 D) else (if x1 < 5 then (P 0 D) else (if 7 < x1 then (P 0 D) else (P 3 D))))))) :
    pu_I X 199 [.ref 85, .int x1] D P := by
  refine pu_ent (E := [.ref 85, .int x1]) pu_n199.1 pu_n199.2 pu_t199_0 rfl ?_
  refine pu_iload_n rfl ?_
  refine pu_iconst ?_
  refine pu_eq_ pu_t199_11 (fun h1 => ?_) (fun h1 => ?_)
  · replace H := pu_t h1 H
    refine pu_iconst ?_
    refine pu_goto pu_t199_46 ?_
    exact pu_iretI pu_rt199 H
  · replace H := pu_f h1 H
    refine pu_iload_n rfl ?_
    refine pu_bipush ?_
    refine pu_ne_ pu_t199_15 (fun h2 => ?_) (fun h2 => ?_)
    · replace H := pu_f h2 H
      refine pu_iload_n rfl ?_
      refine pu_iconst ?_
      refine pu_eq_ pu_t199_26 (fun h3 => ?_) (fun h3 => ?_)
      · replace H := pu_t h3 H
        refine pu_iconst ?_
        refine pu_goto pu_t199_46 ?_
        exact pu_iretI pu_rt199 H
      · replace H := pu_f h3 H
        refine pu_iload_n rfl ?_
        refine pu_bipush ?_
        refine pu_ne_ pu_t199_30 (fun h4 => ?_) (fun h4 => ?_)
        · replace H := pu_f h4 H
          refine pu_iload_n rfl ?_
          refine pu_iconst ?_
          refine pu_lt_ pu_t199_45 (fun h5 => ?_) (fun h5 => ?_)
          · replace H := pu_t h5 H
            refine pu_iconst ?_
            exact pu_iretI pu_rt199 H
          · replace H := pu_f h5 H
            refine pu_iload_n rfl ?_
            refine pu_bipush ?_
            refine pu_gt_ pu_t199_45 (fun h6 => ?_) (fun h6 => ?_)
            · replace H := pu_t h6 H
              refine pu_iconst ?_
              exact pu_iretI pu_rt199 H
            · replace H := pu_f h6 H
              refine pu_iconst ?_
              refine pu_goto pu_t199_46 ?_
              exact pu_iretI pu_rt199 H
        · replace H := pu_t h4 H
          refine pu_iconst ?_
          refine pu_goto pu_t199_46 ?_
          exact pu_iretI pu_rt199 H
    · replace H := pu_t h2 H
      refine pu_iconst ?_
      refine pu_goto pu_t199_46 ?_
      exact pu_iretI pu_rt199 H
/-- LightAlongModel.isBetween(III)Z -/
theorem pu_e200 {X : px_X} {x1 : Int32} {x2 : Int32} {x3 : Int32} {D : pu_D} {P : Int32 → pu_D → Prop} 
    (H : if (x1 - x1 / 2 * 2) = (x2 - x2 / 2 * 2) then (if (x2 / 2) < (x1 / 2) then (if (x1 / 2) < (x3 / 2) then (P 1 D) else (if (x3 / 2) < (x1 / 2) then (if (x1 / 2) < (x2 / 2) then (P 1 D) else (P 0 D)) else (P 0 D))) else (if (x3 / 2) < (x1 / 2) then (if (x1 / 2) < (x2 / 2) then (P 1 D) else (P 0 D)) else (P 0 D))) else (P 0 D)) :
    pu_I X 200 [.ref 85, .int x1, .int x2, .int x3] D P := by
  refine pu_ent (E := [.ref 85, .int x1, .int x2, .int x3, .null, .null, .null]) pu_n200.1 pu_n200.2 pu_t200_0 rfl ?_
  refine pu_iload_n rfl ?_
  refine pu_iconst ?_
  refine pu_idiv (by decide) ?_
  refine pu_istore (L' := [.ref 85, .int x1, .int x2, .int x3, .int (x1 / 2), .null, .null]) (Or.inr rfl) rfl ?_
  refine pu_iload_n rfl ?_
  refine pu_iconst ?_
  refine pu_idiv (by decide) ?_
  refine pu_istore (L' := [.ref 85, .int x1, .int x2, .int x3, .int (x1 / 2), .int (x2 / 2), .null]) (Or.inr rfl) rfl ?_
  refine pu_iload_n rfl ?_
  refine pu_iconst ?_
  refine pu_idiv (by decide) ?_
  refine pu_istore (L' := [.ref 85, .int x1, .int x2, .int x3, .int (x1 / 2), .int (x2 / 2), .int (x3 / 2)]) (Or.inr rfl) rfl ?_
  refine pu_iload_n rfl ?_
  refine pu_iconst ?_
  refine pu_irem (by decide) ?_
  refine pu_iload_n rfl ?_
  refine pu_iconst ?_
  refine pu_irem (by decide) ?_
  refine pu_ne_ pu_t200_56 (fun h1 => ?_) (fun h1 => ?_)
  · replace H := pu_f h1 H
    refine pu_iconst ?_
    exact pu_iretZ pu_rt200 (by decide) H
  · replace H := pu_t h1 H
    refine pu_iload rfl ?_
    refine pu_iload rfl ?_
    refine pu_ge_ pu_t200_38 (fun h2 => ?_) (fun h2 => ?_)
    · replace H := pu_f h2 H
      refine pu_iload rfl ?_
      refine pu_iload rfl ?_
      refine pu_ge_ pu_t200_56 (fun h3 => ?_) (fun h3 => ?_)
      · replace H := pu_f h3 H
        refine pu_iconst ?_
        exact pu_iretZ pu_rt200 (by decide) H
      · replace H := pu_t h3 H
        refine pu_iload rfl ?_
        refine pu_iload rfl ?_
        refine pu_ge_ pu_t200_56 (fun h4 => ?_) (fun h4 => ?_)
        · replace H := pu_f h4 H
          refine pu_iconst ?_
          exact pu_iretZ pu_rt200 (by decide) H
        · replace H := pu_t h4 H
          refine pu_iconst ?_
          refine pu_goto pu_t200_57 ?_
          exact pu_iretZ pu_rt200 (by decide) H
    · replace H := pu_t h2 H
      refine pu_iload rfl ?_
      refine pu_iload rfl ?_
      refine pu_lt_ pu_t200_52 (fun h5 => ?_) (fun h5 => ?_)
      · replace H := pu_t h5 H
        refine pu_iconst ?_
        refine pu_goto pu_t200_57 ?_
        exact pu_iretZ pu_rt200 (by decide) H
      · replace H := pu_f h5 H
        refine pu_iload rfl ?_
        refine pu_iload rfl ?_
        refine pu_ge_ pu_t200_56 (fun h6 => ?_) (fun h6 => ?_)
        · replace H := pu_f h6 H
          refine pu_iconst ?_
          exact pu_iretZ pu_rt200 (by decide) H
        · replace H := pu_t h6 H
          refine pu_iload rfl ?_
          refine pu_iload rfl ?_
          refine pu_ge_ pu_t200_56 (fun h7 => ?_) (fun h7 => ?_)
          · replace H := pu_f h7 H
            refine pu_iconst ?_
            exact pu_iretZ pu_rt200 (by decide) H
          · replace H := pu_t h7 H
            refine pu_iconst ?_
            refine pu_goto pu_t200_57 ?_
            exact pu_iretZ pu_rt200 (by decide) H
/-- LightAlongModel.given(IIII)I -/
def pu_h201_81 (X : px_X) (x2 : Int32) (x3 : Int32) (x4 : Int32) (x7 : Int32) (x8 : Int32) (D : pu_D) (P : Int32 → pu_D → Prop) : Prop := ∀ z1 : Value, z1.category = 1 → ∀ z5 : Value, z5.category = 1 → ∀ z6 : Value, z6.category = 1 → pu_W X 201 (0, 0) px_c201_81 [.ref 85, z1, .int x2, .int x3, .int x4, z5, z6, .int x7, .int x8] [] D (pu_qi P)
def pu_h201_135 (X : px_X) (x2 : Int32) (x3 : Int32) (x7 : Int32) (x8 : Int32) (D : pu_D) (P : Int32 → pu_D → Prop) : Prop := ∀ z1 : Value, z1.category = 1 → ∀ z4 : Value, z4.category = 1 → ∀ z5 : Value, z5.category = 1 → ∀ z6 : Value, z6.category = 1 → pu_W X 201 (0, 0) px_c201_135 [.ref 85, z1, .int x2, .int x3, z4, z5, z6, .int x7, .int x8] [] D (pu_qi P)
theorem pu_u201_81 {X : px_X} {x2 : Int32} {x3 : Int32} {x4 : Int32} {x7 : Int32} {x8 : Int32} {D : pu_D} {P : Int32 → pu_D → Prop} 
    (H : if x8 < (D.1 85 2) then ((px_in x8 12 = true) ∧ (px_in x2 9 = true) ∧ pu_I X 200 [.ref 85, .int (D.1 95 x8.toNatClampNeg), .int (D.1 91 x2.toNatClampNeg), .int x3] D (fun y3 D4 => if y3 = 0 then (pu_h201_81 X x2 x3 x4 x7 (x8 + 1) D4 P) else (pu_I X 199 [.ref 85, .int x4] D4 (fun y6 D7 => pu_h201_81 X x2 x3 x4 ((x7 * (4 - y6)) / 4) (x8 + 1) D7 P)))) else (pu_h201_135 X x2 x3 x7 0 D P)) :
    pu_h201_81 X x2 x3 x4 x7 x8 D P := by
  intro z1 hz1 z5 hz5 z6 hz6
  refine pu_iload rfl ?_
  refine pu_aload_n rfl ?_
  refine pu_getI pu_k8_2 pu_c85 ?_
  refine pu_ge_ pu_t201_132 (fun h2 => ?_) (fun h2 => ?_)
  · replace H := pu_f h2 H
    refine pu_iconst ?_
    refine pu_istore (L' := [.ref 85, z1, .int x2, .int x3, .int x4, z5, z6, .int x7, .int 0]) (Or.inr rfl) rfl ?_
    exact H _ hz1 _ rfl _ hz5 _ hz6
  · replace H := pu_t h2 H
    refine pu_aload_n rfl ?_
    refine pu_aload_n rfl ?_
    refine pu_getR pu_kr8_21 pu_c85 pu_r85_21 ?_
    refine pu_iload rfl ?_
    refine pu_ial pu_c95 pu_ln95 H.1 ?_
    replace H := H.2
    refine pu_aload_n rfl ?_
    refine pu_getR pu_kr8_17 pu_c85 pu_r85_17 ?_
    refine pu_iload_n rfl ?_
    refine pu_ial pu_c91 pu_ln91 H.1 ?_
    replace H := H.2
    refine pu_iload_n rfl ?_
    refine pu_cv (vs := [.int (D.1 95 x8.toNatClampNeg), .int (D.1 91 x2.toNatClampNeg), .int x3]) (rest := []) pu_g200 ⟨pu_c85, by decide⟩ rfl rfl rfl rfl rfl (pu_CI (pu_I_imp H (fun y3 D4 H => ?_)))
    refine pu_eq0 pu_t201_126 (fun h5 => ?_) (fun h5 => ?_)
    · replace H := pu_t h5 H
      refine pu_iinc (L' := [.ref 85, z1, .int x2, .int x3, .int x4, z5, z6, .int x7, .int (x8 + 1)]) rfl (Or.inr rfl) rfl ?_
      refine pu_goto pu_t201_81 ?_
      exact H _ hz1 _ hz5 _ hz6
    · replace H := pu_f h5 H
      refine pu_iload rfl ?_
      refine pu_iconst ?_
      refine pu_aload_n rfl ?_
      refine pu_iload rfl ?_
      refine pu_cv (vs := [.int x4]) (rest := [.int 4, .int x7]) pu_g199 ⟨pu_c85, by decide⟩ rfl rfl rfl rfl rfl (pu_CI (pu_I_imp H (fun y6 D7 H => ?_)))
      refine pu_isub ?_
      refine pu_imul ?_
      refine pu_iconst ?_
      refine pu_idiv (by decide) ?_
      refine pu_istore (L' := [.ref 85, z1, .int x2, .int x3, .int x4, z5, z6, .int ((x7 * (4 - y6)) / 4), .int x8]) (Or.inr hz6) rfl ?_
      refine pu_iinc (L' := [.ref 85, z1, .int x2, .int x3, .int x4, z5, z6, .int ((x7 * (4 - y6)) / 4), .int (x8 + 1)]) rfl (Or.inr rfl) rfl ?_
      refine pu_goto pu_t201_81 ?_
      exact H _ hz1 _ hz5 _ hz6
theorem pu_u201_135 {X : px_X} {x2 : Int32} {x3 : Int32} {x7 : Int32} {x8 : Int32} {D : pu_D} {P : Int32 → pu_D → Prop} 
    (H : if x8 < (D.1 85 3) then ((px_in x8 12 = true) ∧ (px_in x2 9 = true) ∧ pu_I X 200 [.ref 85, .int (D.1 96 x8.toNatClampNeg), .int (D.1 91 x2.toNatClampNeg), .int x3] D (fun y9 D10 => if y9 = 0 then (pu_h201_135 X x2 x3 x7 (x8 + 1) D10 P) else (pu_h201_135 X x2 x3 0 (x8 + 1) D10 P))) else (P x7 D)) :
    pu_h201_135 X x2 x3 x7 x8 D P := by
  intro z1 hz1 z4 hz4 z5 hz5 z6 hz6
  refine pu_iload rfl ?_
  refine pu_aload_n rfl ?_
  refine pu_getI pu_k8_3 pu_c85 ?_
  refine pu_ge_ pu_t201_174 (fun h8 => ?_) (fun h8 => ?_)
  · replace H := pu_f h8 H
    refine pu_iload rfl ?_
    exact pu_iretI pu_rt201 H
  · replace H := pu_t h8 H
    refine pu_aload_n rfl ?_
    refine pu_aload_n rfl ?_
    refine pu_getR pu_kr8_22 pu_c85 pu_r85_22 ?_
    refine pu_iload rfl ?_
    refine pu_ial pu_c96 pu_ln96 H.1 ?_
    replace H := H.2
    refine pu_aload_n rfl ?_
    refine pu_getR pu_kr8_17 pu_c85 pu_r85_17 ?_
    refine pu_iload_n rfl ?_
    refine pu_ial pu_c91 pu_ln91 H.1 ?_
    replace H := H.2
    refine pu_iload_n rfl ?_
    refine pu_cv (vs := [.int (D.1 96 x8.toNatClampNeg), .int (D.1 91 x2.toNatClampNeg), .int x3]) (rest := []) pu_g200 ⟨pu_c85, by decide⟩ rfl rfl rfl rfl rfl (pu_CI (pu_I_imp H (fun y9 D10 H => ?_)))
    refine pu_eq0 pu_t201_168 (fun h11 => ?_) (fun h11 => ?_)
    · replace H := pu_t h11 H
      refine pu_iinc (L' := [.ref 85, z1, .int x2, .int x3, z4, z5, z6, .int x7, .int (x8 + 1)]) rfl (Or.inr rfl) rfl ?_
      refine pu_goto pu_t201_135 ?_
      exact H _ hz1 _ hz4 _ hz5 _ hz6
    · replace H := pu_f h11 H
      refine pu_iconst ?_
      refine pu_istore (L' := [.ref 85, z1, .int x2, .int x3, z4, z5, z6, .int 0, .int x8]) (Or.inr hz6) rfl ?_
      refine pu_iinc (L' := [.ref 85, z1, .int x2, .int x3, z4, z5, z6, .int 0, .int (x8 + 1)]) rfl (Or.inr rfl) rfl ?_
      refine pu_goto pu_t201_135 ?_
      exact H _ hz1 _ hz4 _ hz5 _ hz6
theorem pu_e201 {X : px_X} {x1 : Int32} {x2 : Int32} {x3 : Int32} {x4 : Int32} {D : pu_D} {P : Int32 → pu_D → Prop} 
    (H : (px_in x2 9 = true) ∧ (px_in x1 6 = true) ∧ (px_in x1 6 = true) ∧ (px_in x2 9 = true) ∧ if ((D.1 91 x2.toNatClampNeg) - (D.1 91 x2.toNatClampNeg) / 2 * 2) = (x3 - x3 / 2 * 2) then ((px_in x1 6 = true) ∧ (¬ (((D.1 87 x1.toNatClampNeg) * (D.1 87 x1.toNatClampNeg)) + ((((D.1 91 x2.toNatClampNeg) / 2) - (x3 / 2)) * (((D.1 91 x2.toNatClampNeg) / 2) - (x3 / 2)))) = 0) ∧ pu_h201_81 X x2 x3 x4 ((1000 * (D.1 88 x1.toNatClampNeg)) / (((D.1 87 x1.toNatClampNeg) * (D.1 87 x1.toNatClampNeg)) + ((((D.1 91 x2.toNatClampNeg) / 2) - (x3 / 2)) * (((D.1 91 x2.toNatClampNeg) / 2) - (x3 / 2))))) 0 D P) else ((px_in x1 6 = true) ∧ (¬ ((((D.1 87 x1.toNatClampNeg) * (D.1 87 x1.toNatClampNeg)) + ((((D.1 91 x2.toNatClampNeg) / 2) - (x3 / 2)) * (((D.1 91 x2.toNatClampNeg) / 2) - (x3 / 2)))) + ((D.1 85 9) * (D.1 85 9))) = 0) ∧ pu_h201_81 X x2 x3 x4 ((1000 * (D.1 88 x1.toNatClampNeg)) / ((((D.1 87 x1.toNatClampNeg) * (D.1 87 x1.toNatClampNeg)) + ((((D.1 91 x2.toNatClampNeg) / 2) - (x3 / 2)) * (((D.1 91 x2.toNatClampNeg) / 2) - (x3 / 2)))) + ((D.1 85 9) * (D.1 85 9)))) 0 D P)) :
    pu_I X 201 [.ref 85, .int x1, .int x2, .int x3, .int x4] D P := by
  refine pu_ent (E := [.ref 85, .int x1, .int x2, .int x3, .int x4, .null, .null, .null, .null]) pu_n201.1 pu_n201.2 pu_t201_0 rfl ?_
  refine pu_aload_n rfl ?_
  refine pu_getR pu_kr8_17 pu_c85 pu_r85_17 ?_
  refine pu_iload_n rfl ?_
  refine pu_ial pu_c91 pu_ln91 H.1 ?_
  replace H := H.2
  refine pu_iconst ?_
  refine pu_idiv (by decide) ?_
  refine pu_iload_n rfl ?_
  refine pu_iconst ?_
  refine pu_idiv (by decide) ?_
  refine pu_isub ?_
  refine pu_istore (L' := [.ref 85, .int x1, .int x2, .int x3, .int x4, .int (((D.1 91 x2.toNatClampNeg) / 2) - (x3 / 2)), .null, .null, .null]) (Or.inr rfl) rfl ?_
  refine pu_aload_n rfl ?_
  refine pu_getR pu_kr8_13 pu_c85 pu_r85_13 ?_
  refine pu_iload_n rfl ?_
  refine pu_ial pu_c87 pu_ln87 H.1 ?_
  replace H := H.2
  refine pu_aload_n rfl ?_
  refine pu_getR pu_kr8_13 pu_c85 pu_r85_13 ?_
  refine pu_iload_n rfl ?_
  refine pu_ial pu_c87 pu_ln87 H.1 ?_
  replace H := H.2
  refine pu_imul ?_
  refine pu_iload rfl ?_
  refine pu_iload rfl ?_
  refine pu_imul ?_
  refine pu_iadd ?_
  refine pu_istore (L' := [.ref 85, .int x1, .int x2, .int x3, .int x4, .int (((D.1 91 x2.toNatClampNeg) / 2) - (x3 / 2)), .int (((D.1 87 x1.toNatClampNeg) * (D.1 87 x1.toNatClampNeg)) + ((((D.1 91 x2.toNatClampNeg) / 2) - (x3 / 2)) * (((D.1 91 x2.toNatClampNeg) / 2) - (x3 / 2)))), .null, .null]) (Or.inr rfl) rfl ?_
  refine pu_aload_n rfl ?_
  refine pu_getR pu_kr8_17 pu_c85 pu_r85_17 ?_
  refine pu_iload_n rfl ?_
  refine pu_ial pu_c91 pu_ln91 H.1 ?_
  replace H := H.2
  refine pu_iconst ?_
  refine pu_irem (by decide) ?_
  refine pu_iload_n rfl ?_
  refine pu_iconst ?_
  refine pu_irem (by decide) ?_
  refine pu_eq_ pu_t201_63 (fun h1 => ?_) (fun h1 => ?_)
  · replace H := pu_t h1 H
    refine pu_sipush ?_
    refine pu_aload_n rfl ?_
    refine pu_getR pu_kr8_14 pu_c85 pu_r85_14 ?_
    refine pu_iload_n rfl ?_
    refine pu_ial pu_c88 pu_ln88 H.1 ?_
    replace H := H.2
    refine pu_imul ?_
    refine pu_iload rfl ?_
    refine pu_idiv H.1 ?_
    replace H := H.2
    refine pu_istore (L' := [.ref 85, .int x1, .int x2, .int x3, .int x4, .int (((D.1 91 x2.toNatClampNeg) / 2) - (x3 / 2)), .int (((D.1 87 x1.toNatClampNeg) * (D.1 87 x1.toNatClampNeg)) + ((((D.1 91 x2.toNatClampNeg) / 2) - (x3 / 2)) * (((D.1 91 x2.toNatClampNeg) / 2) - (x3 / 2)))), .int ((1000 * (D.1 88 x1.toNatClampNeg)) / (((D.1 87 x1.toNatClampNeg) * (D.1 87 x1.toNatClampNeg)) + ((((D.1 91 x2.toNatClampNeg) / 2) - (x3 / 2)) * (((D.1 91 x2.toNatClampNeg) / 2) - (x3 / 2))))), .null]) (Or.inr rfl) rfl ?_
    refine pu_iconst ?_
    refine pu_istore (L' := [.ref 85, .int x1, .int x2, .int x3, .int x4, .int (((D.1 91 x2.toNatClampNeg) / 2) - (x3 / 2)), .int (((D.1 87 x1.toNatClampNeg) * (D.1 87 x1.toNatClampNeg)) + ((((D.1 91 x2.toNatClampNeg) / 2) - (x3 / 2)) * (((D.1 91 x2.toNatClampNeg) / 2) - (x3 / 2)))), .int ((1000 * (D.1 88 x1.toNatClampNeg)) / (((D.1 87 x1.toNatClampNeg) * (D.1 87 x1.toNatClampNeg)) + ((((D.1 91 x2.toNatClampNeg) / 2) - (x3 / 2)) * (((D.1 91 x2.toNatClampNeg) / 2) - (x3 / 2))))), .int 0]) (Or.inr rfl) rfl ?_
    exact H _ rfl _ rfl _ rfl
  · replace H := pu_f h1 H
    refine pu_iload rfl ?_
    refine pu_aload_n rfl ?_
    refine pu_getI pu_k8_9 pu_c85 ?_
    refine pu_aload_n rfl ?_
    refine pu_getI pu_k8_9 pu_c85 ?_
    refine pu_imul ?_
    refine pu_iadd ?_
    refine pu_istore (L' := [.ref 85, .int x1, .int x2, .int x3, .int x4, .int (((D.1 91 x2.toNatClampNeg) / 2) - (x3 / 2)), .int ((((D.1 87 x1.toNatClampNeg) * (D.1 87 x1.toNatClampNeg)) + ((((D.1 91 x2.toNatClampNeg) / 2) - (x3 / 2)) * (((D.1 91 x2.toNatClampNeg) / 2) - (x3 / 2)))) + ((D.1 85 9) * (D.1 85 9))), .null, .null]) (Or.inr rfl) rfl ?_
    refine pu_sipush ?_
    refine pu_aload_n rfl ?_
    refine pu_getR pu_kr8_14 pu_c85 pu_r85_14 ?_
    refine pu_iload_n rfl ?_
    refine pu_ial pu_c88 pu_ln88 H.1 ?_
    replace H := H.2
    refine pu_imul ?_
    refine pu_iload rfl ?_
    refine pu_idiv H.1 ?_
    replace H := H.2
    refine pu_istore (L' := [.ref 85, .int x1, .int x2, .int x3, .int x4, .int (((D.1 91 x2.toNatClampNeg) / 2) - (x3 / 2)), .int ((((D.1 87 x1.toNatClampNeg) * (D.1 87 x1.toNatClampNeg)) + ((((D.1 91 x2.toNatClampNeg) / 2) - (x3 / 2)) * (((D.1 91 x2.toNatClampNeg) / 2) - (x3 / 2)))) + ((D.1 85 9) * (D.1 85 9))), .int ((1000 * (D.1 88 x1.toNatClampNeg)) / ((((D.1 87 x1.toNatClampNeg) * (D.1 87 x1.toNatClampNeg)) + ((((D.1 91 x2.toNatClampNeg) / 2) - (x3 / 2)) * (((D.1 91 x2.toNatClampNeg) / 2) - (x3 / 2)))) + ((D.1 85 9) * (D.1 85 9)))), .null]) (Or.inr rfl) rfl ?_
    refine pu_iconst ?_
    refine pu_istore (L' := [.ref 85, .int x1, .int x2, .int x3, .int x4, .int (((D.1 91 x2.toNatClampNeg) / 2) - (x3 / 2)), .int ((((D.1 87 x1.toNatClampNeg) * (D.1 87 x1.toNatClampNeg)) + ((((D.1 91 x2.toNatClampNeg) / 2) - (x3 / 2)) * (((D.1 91 x2.toNatClampNeg) / 2) - (x3 / 2)))) + ((D.1 85 9) * (D.1 85 9))), .int ((1000 * (D.1 88 x1.toNatClampNeg)) / ((((D.1 87 x1.toNatClampNeg) * (D.1 87 x1.toNatClampNeg)) + ((((D.1 91 x2.toNatClampNeg) / 2) - (x3 / 2)) * (((D.1 91 x2.toNatClampNeg) / 2) - (x3 / 2)))) + ((D.1 85 9) * (D.1 85 9)))), .int 0]) (Or.inr rfl) rfl ?_
    exact H _ rfl _ rfl _ rfl
