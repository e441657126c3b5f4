/-! THE LAW: each of its calls keeps what both sides tell. -/
theorem lg_0 (x : Int64) : lg_cmp x x = 0 := by
  unfold lg_cmp
  rw [if_neg (show ¬ x > x from Int64.lt_irrefl), if_pos rfl]
theorem ite_i {c : Prop} [Decidable c] {A B : Prop} (ha : A) (hb : B) : if c then A else B := by
  by_cases h : c
  · rw [if_pos h]; exact ha
  · rw [if_neg h]; exact hb
section LW
variable {X : px_X} {x3 : Int32} {D : pu_D} {P : Int32 → pu_D → Prop}
theorem la_220 (h : rel_ D) (i1 : px_in (x3 + 1) X.1 = true) (i2 : px_in (x3 + 2) X.1 = true) (i3 : px_in (x3 + 3) X.1 = true) (i4 : px_in (x3 + 4) X.1 = true) (i5 : px_in (x3 + 5) X.1 = true) (K : ∀ D', rel_ D' → pu_h260_1732 X x3 D' P) : pu_h260_220 X x3 D P := by
  refine pu_u260_220 ?_
  exact ⟨i1, i2, i3, pu_I_imp (oq_87 h) fun y1 D1 e => ⟨i1, i2, i3, pu_I_imp e fun y2 D2 g => by rw [if_pos g.1]; exact K D2 g.2⟩⟩
theorem la_263 (h : rel_ D) (i1 : px_in (x3 + 1) X.1 = true) (i2 : px_in (x3 + 2) X.1 = true) (i3 : px_in (x3 + 3) X.1 = true) (i4 : px_in (x3 + 4) X.1 = true) (i5 : px_in (x3 + 5) X.1 = true) (K : ∀ D', rel_ D' → pu_h260_1732 X x3 D' P) : pu_h260_263 X x3 D P := by
  refine pu_u260_263 ?_
  exact ⟨i1, i2, i3, i4, pu_I_imp (oq_88 h) fun y1 D1 e => ⟨i1, i2, i3, i4, pu_I_imp e fun y2 D2 g => by rw [if_pos g.1]; exact K D2 g.2⟩⟩
theorem la_336 (h : rel_ D) (i1 : px_in (x3 + 1) X.1 = true) (i2 : px_in (x3 + 2) X.1 = true) (i3 : px_in (x3 + 3) X.1 = true) (i4 : px_in (x3 + 4) X.1 = true) (i5 : px_in (x3 + 5) X.1 = true) (K : ∀ D', rel_ D' → pu_h260_1732 X x3 D' P) : pu_h260_336 X x3 D P := by
  refine pu_u260_336 ?_
  exact ⟨i1, i2, i3, i4, i5, pu_I_imp (oq_89 h) fun y1 D1 e => ⟨i1, i2, i3, i4, i5, pu_I_imp e fun y2 D2 g => by rw [if_pos g.1]; exact K D2 g.2⟩⟩
theorem la_399 (h : rel_ D) (i1 : px_in (x3 + 1) X.1 = true) (i2 : px_in (x3 + 2) X.1 = true) (i3 : px_in (x3 + 3) X.1 = true) (i4 : px_in (x3 + 4) X.1 = true) (i5 : px_in (x3 + 5) X.1 = true) (K : ∀ D', rel_ D' → pu_h260_1732 X x3 D' P) : pu_h260_399 X x3 D P := by
  refine pu_u260_399 ?_
  exact ⟨i1, i2, pu_J_imp (oq_90 h) fun y1 D1 e => ⟨i1, i2, pu_J_imp e fun y2 D2 g => by rw [if_pos (by rw [g.1]; exact lg_0 _)]; exact K D2 g.2⟩⟩
theorem la_433 (h : rel_ D) (i1 : px_in (x3 + 1) X.1 = true) (i2 : px_in (x3 + 2) X.1 = true) (i3 : px_in (x3 + 3) X.1 = true) (i4 : px_in (x3 + 4) X.1 = true) (i5 : px_in (x3 + 5) X.1 = true) (K : ∀ D', rel_ D' → pu_h260_1732 X x3 D' P) : pu_h260_433 X x3 D P := by
  refine pu_u260_433 ?_
  exact ⟨i1, i2, i3, pu_I_imp (oq_91 h) fun y1 D1 e => ⟨i1, i2, i3, pu_I_imp e fun y2 D2 g => by rw [if_pos g.1]; exact K D2 g.2⟩⟩
theorem la_476 (h : rel_ D) (i1 : px_in (x3 + 1) X.1 = true) (i2 : px_in (x3 + 2) X.1 = true) (i3 : px_in (x3 + 3) X.1 = true) (i4 : px_in (x3 + 4) X.1 = true) (i5 : px_in (x3 + 5) X.1 = true) (K : ∀ D', rel_ D' → pu_h260_1732 X x3 D' P) : pu_h260_476 X x3 D P := by
  refine pu_u260_476 ?_
  exact ⟨i1, pu_I_imp (oq_92 h) fun y1 D1 e => ⟨i1, pu_I_imp e fun y2 D2 g => by rw [if_pos g.1]; exact K D2 g.2⟩⟩
theorem la_499 (h : rel_ D) (i1 : px_in (x3 + 1) X.1 = true) (i2 : px_in (x3 + 2) X.1 = true) (i3 : px_in (x3 + 3) X.1 = true) (i4 : px_in (x3 + 4) X.1 = true) (i5 : px_in (x3 + 5) X.1 = true) (K : ∀ D', rel_ D' → pu_h260_1732 X x3 D' P) : pu_h260_499 X x3 D P := by
  refine pu_u260_499 ?_
  exact ⟨i1, i2, pu_I_imp (oq_93 h) fun y1 D1 e => ⟨i1, i2, pu_I_imp e fun y2 D2 g => by rw [if_pos g.1]; exact K D2 g.2⟩⟩
theorem la_532 (h : rel_ D) (i1 : px_in (x3 + 1) X.1 = true) (i2 : px_in (x3 + 2) X.1 = true) (i3 : px_in (x3 + 3) X.1 = true) (i4 : px_in (x3 + 4) X.1 = true) (i5 : px_in (x3 + 5) X.1 = true) (K : ∀ D', rel_ D' → pu_h260_1732 X x3 D' P) : pu_h260_532 X x3 D P := by
  refine pu_u260_532 ?_
  exact ⟨i1, i2, i3, i4, pu_I_imp (oq_94 h) fun y1 D1 e => ⟨i1, i2, i3, i4, pu_I_imp e fun y2 D2 g => by rw [if_pos g.1]; exact K D2 g.2⟩⟩
theorem la_585 (h : rel_ D) (i1 : px_in (x3 + 1) X.1 = true) (i2 : px_in (x3 + 2) X.1 = true) (i3 : px_in (x3 + 3) X.1 = true) (i4 : px_in (x3 + 4) X.1 = true) (i5 : px_in (x3 + 5) X.1 = true) (K : ∀ D', rel_ D' → pu_h260_1732 X x3 D' P) : pu_h260_585 X x3 D P := by
  refine pu_u260_585 ?_
  exact ⟨i1, i2, pu_I_imp (oq_95 h) fun y1 D1 e => ⟨i1, i2, pu_I_imp e fun y2 D2 g => by rw [if_pos g.1]; exact K D2 g.2⟩⟩
theorem la_618 (h : rel_ D) (i1 : px_in (x3 + 1) X.1 = true) (i2 : px_in (x3 + 2) X.1 = true) (i3 : px_in (x3 + 3) X.1 = true) (i4 : px_in (x3 + 4) X.1 = true) (i5 : px_in (x3 + 5) X.1 = true) (K : ∀ D', rel_ D' → pu_h260_1732 X x3 D' P) : pu_h260_618 X x3 D P := by
  refine pu_u260_618 ?_
  exact ⟨i1, i2, pu_I_imp (oq_96 h) fun y1 D1 e => ⟨i1, i2, pu_I_imp e fun y2 D2 g => by rw [if_pos g.1]; exact K D2 g.2⟩⟩
theorem la_651 (h : rel_ D) (i1 : px_in (x3 + 1) X.1 = true) (i2 : px_in (x3 + 2) X.1 = true) (i3 : px_in (x3 + 3) X.1 = true) (i4 : px_in (x3 + 4) X.1 = true) (i5 : px_in (x3 + 5) X.1 = true) (K : ∀ D', rel_ D' → pu_h260_1732 X x3 D' P) : pu_h260_651 X x3 D P := by
  refine pu_u260_651 ?_
  exact ⟨i1, i2, pu_I_imp (oq_97 h) fun y1 D1 e => ⟨i1, i2, pu_I_imp e fun y2 D2 g => by rw [if_pos g.1]; exact K D2 g.2⟩⟩
theorem la_684 (h : rel_ D) (i1 : px_in (x3 + 1) X.1 = true) (i2 : px_in (x3 + 2) X.1 = true) (i3 : px_in (x3 + 3) X.1 = true) (i4 : px_in (x3 + 4) X.1 = true) (i5 : px_in (x3 + 5) X.1 = true) (K : ∀ D', rel_ D' → pu_h260_1732 X x3 D' P) : pu_h260_684 X x3 D P := by
  refine pu_u260_684 ?_
  exact ⟨i1, i2, i3, pu_I_imp (oq_98 h) fun y1 D1 e => ⟨i1, i2, i3, pu_I_imp e fun y2 D2 g => by rw [if_pos g.1]; exact K D2 g.2⟩⟩
theorem la_727 (h : rel_ D) (i1 : px_in (x3 + 1) X.1 = true) (i2 : px_in (x3 + 2) X.1 = true) (i3 : px_in (x3 + 3) X.1 = true) (i4 : px_in (x3 + 4) X.1 = true) (i5 : px_in (x3 + 5) X.1 = true) (K : ∀ D', rel_ D' → pu_h260_1732 X x3 D' P) : pu_h260_727 X x3 D P := by
  refine pu_u260_727 ?_
  exact ⟨i1, i2, pu_I_imp (oq_99 h) fun y1 D1 e => ⟨i1, i2, pu_I_imp e fun y2 D2 g => by rw [if_pos g.1]; exact K D2 g.2⟩⟩
theorem la_760 (h : rel_ D) (i1 : px_in (x3 + 1) X.1 = true) (i2 : px_in (x3 + 2) X.1 = true) (i3 : px_in (x3 + 3) X.1 = true) (i4 : px_in (x3 + 4) X.1 = true) (i5 : px_in (x3 + 5) X.1 = true) (K : ∀ D', rel_ D' → pu_h260_1732 X x3 D' P) : pu_h260_760 X x3 D P := by
  refine pu_u260_760 ?_
  exact ⟨i1, pu_I_imp (oq_100 h) fun y1 D1 e => ⟨i1, pu_I_imp e fun y2 D2 g => by rw [if_pos g.1]; exact K D2 g.2⟩⟩
theorem la_783 (h : rel_ D) (i1 : px_in (x3 + 1) X.1 = true) (i2 : px_in (x3 + 2) X.1 = true) (i3 : px_in (x3 + 3) X.1 = true) (i4 : px_in (x3 + 4) X.1 = true) (i5 : px_in (x3 + 5) X.1 = true) (K : ∀ D', rel_ D' → pu_h260_1732 X x3 D' P) : pu_h260_783 X x3 D P := by
  refine pu_u260_783 ?_
  exact pu_I_imp (oq_101 h) fun y1 D1 e => pu_I_imp e fun y2 D2 g => by rw [if_pos g.1]; exact K D2 g.2
theorem la_796 (h : rel_ D) (i1 : px_in (x3 + 1) X.1 = true) (i2 : px_in (x3 + 2) X.1 = true) (i3 : px_in (x3 + 3) X.1 = true) (i4 : px_in (x3 + 4) X.1 = true) (i5 : px_in (x3 + 5) X.1 = true) (K : ∀ D', rel_ D' → pu_h260_1732 X x3 D' P) : pu_h260_796 X x3 D P := by
  refine pu_u260_796 ?_
  exact ⟨i1, i2, pu_I_imp (oq_102 h) fun y1 D1 e => ⟨i1, i2, pu_I_imp e fun y2 D2 g => by rw [if_pos g.1]; exact K D2 g.2⟩⟩
theorem la_829 (h : rel_ D) (i1 : px_in (x3 + 1) X.1 = true) (i2 : px_in (x3 + 2) X.1 = true) (i3 : px_in (x3 + 3) X.1 = true) (i4 : px_in (x3 + 4) X.1 = true) (i5 : px_in (x3 + 5) X.1 = true) (K : ∀ D', rel_ D' → pu_h260_1732 X x3 D' P) : pu_h260_829 X x3 D P := by
  refine pu_u260_829 ?_
  exact ⟨i1, i2, pu_I_imp (oq_103 h) fun y1 D1 e => ⟨i1, i2, pu_I_imp e fun y2 D2 g => by rw [if_pos g.1]; exact K D2 g.2⟩⟩
theorem la_862 (h : rel_ D) (i1 : px_in (x3 + 1) X.1 = true) (i2 : px_in (x3 + 2) X.1 = true) (i3 : px_in (x3 + 3) X.1 = true) (i4 : px_in (x3 + 4) X.1 = true) (i5 : px_in (x3 + 5) X.1 = true) (K : ∀ D', rel_ D' → pu_h260_1732 X x3 D' P) : pu_h260_862 X x3 D P := by
  refine pu_u260_862 ?_
  exact ⟨i1, i2, pu_I_imp (oq_104 h) fun y1 D1 e => ⟨i1, i2, pu_I_imp e fun y2 D2 g => by rw [if_pos g.1]; exact K D2 g.2⟩⟩
theorem la_895 (h : rel_ D) (i1 : px_in (x3 + 1) X.1 = true) (i2 : px_in (x3 + 2) X.1 = true) (i3 : px_in (x3 + 3) X.1 = true) (i4 : px_in (x3 + 4) X.1 = true) (i5 : px_in (x3 + 5) X.1 = true) (K : ∀ D', rel_ D' → pu_h260_1732 X x3 D' P) : pu_h260_895 X x3 D P := by
  refine pu_u260_895 ?_
  refine ⟨i1, i2, ?_⟩
  by_cases z : X.2 (x3 + 2).toNatClampNeg = 0
  · rw [if_pos z]
    exact pu_I_imp (oq_105 h (v := 0) (by omega)) fun y1 D1 e => ⟨i1, i2, by
      rw [if_pos z]
      exact pu_I_imp e fun y2 D2 g => by rw [if_pos g.1]; exact K D2 g.2⟩
  · rw [if_neg z]
    exact pu_I_imp (oq_105 h (v := 1) (by omega)) fun y1 D1 e => ⟨i1, i2, by
      rw [if_neg z]
      exact pu_I_imp e fun y2 D2 g => by rw [if_pos g.1]; exact K D2 g.2⟩
theorem la_944 (h : rel_ D) (i1 : px_in (x3 + 1) X.1 = true) (i2 : px_in (x3 + 2) X.1 = true) (i3 : px_in (x3 + 3) X.1 = true) (i4 : px_in (x3 + 4) X.1 = true) (i5 : px_in (x3 + 5) X.1 = true) (K : ∀ D', rel_ D' → pu_h260_1732 X x3 D' P) : pu_h260_944 X x3 D P := by
  refine pu_u260_944 ?_
  exact ⟨i1, i2, i3, i4, pu_I_imp (oq_106 h) fun y1 D1 e => ⟨i1, i2, i3, i4, pu_I_imp e fun y2 D2 g => by rw [if_pos g.1]; exact K D2 g.2⟩⟩
theorem la_997 (h : rel_ D) (i1 : px_in (x3 + 1) X.1 = true) (i2 : px_in (x3 + 2) X.1 = true) (i3 : px_in (x3 + 3) X.1 = true) (i4 : px_in (x3 + 4) X.1 = true) (i5 : px_in (x3 + 5) X.1 = true) (K : ∀ D', rel_ D' → pu_h260_1732 X x3 D' P) : pu_h260_997 X x3 D P := by
  refine pu_u260_997 ?_
  exact ⟨i1, i2, i3, i4, pu_I_imp (oq_107 h) fun y1 D1 e => ⟨i1, i2, i3, i4, pu_I_imp e fun y2 D2 g => by rw [if_pos g.1]; exact K D2 g.2⟩⟩
theorem la_1050 (h : rel_ D) (i1 : px_in (x3 + 1) X.1 = true) (i2 : px_in (x3 + 2) X.1 = true) (i3 : px_in (x3 + 3) X.1 = true) (i4 : px_in (x3 + 4) X.1 = true) (i5 : px_in (x3 + 5) X.1 = true) (K : ∀ D', rel_ D' → pu_h260_1732 X x3 D' P) : pu_h260_1050 X x3 D P := by
  refine pu_u260_1050 ?_
  exact ⟨i1, i2, i3, pu_I_imp (oq_108 h) fun y1 D1 e => ⟨i1, i2, i3, pu_I_imp e fun y2 D2 g => by rw [if_pos g.1]; exact K D2 g.2⟩⟩
theorem la_1093 (h : rel_ D) (i1 : px_in (x3 + 1) X.1 = true) (i2 : px_in (x3 + 2) X.1 = true) (i3 : px_in (x3 + 3) X.1 = true) (i4 : px_in (x3 + 4) X.1 = true) (i5 : px_in (x3 + 5) X.1 = true) (K : ∀ D', rel_ D' → pu_h260_1732 X x3 D' P) : pu_h260_1093 X x3 D P := by
  refine pu_u260_1093 ?_
  exact ⟨i1, i2, i3, pu_I_imp (oq_109 h) fun y1 D1 e => ⟨i1, i2, i3, pu_I_imp e fun y2 D2 g => by rw [if_pos g.1]; exact K D2 g.2⟩⟩
theorem la_1136 (h : rel_ D) (i1 : px_in (x3 + 1) X.1 = true) (i2 : px_in (x3 + 2) X.1 = true) (i3 : px_in (x3 + 3) X.1 = true) (i4 : px_in (x3 + 4) X.1 = true) (i5 : px_in (x3 + 5) X.1 = true) (K : ∀ D', rel_ D' → pu_h260_1732 X x3 D' P) : pu_h260_1136 X x3 D P := by
  refine pu_u260_1136 ?_
  exact ⟨i1, i2, pu_I_imp (oq_110 h) fun y1 D1 e => ⟨i1, i2, pu_I_imp e fun y2 D2 g => by rw [if_pos g.1]; exact K D2 g.2⟩⟩
theorem la_1169 (h : rel_ D) (i1 : px_in (x3 + 1) X.1 = true) (i2 : px_in (x3 + 2) X.1 = true) (i3 : px_in (x3 + 3) X.1 = true) (i4 : px_in (x3 + 4) X.1 = true) (i5 : px_in (x3 + 5) X.1 = true) (K : ∀ D', rel_ D' → pu_h260_1732 X x3 D' P) : pu_h260_1169 X x3 D P := by
  refine pu_u260_1169 ?_
  exact ⟨i1, i2, pu_I_imp (oq_111 h) fun y1 D1 e => ⟨i1, i2, pu_I_imp e fun y2 D2 g => by rw [if_pos g.1]; exact K D2 g.2⟩⟩
theorem la_1202 (h : rel_ D) (i1 : px_in (x3 + 1) X.1 = true) (i2 : px_in (x3 + 2) X.1 = true) (i3 : px_in (x3 + 3) X.1 = true) (i4 : px_in (x3 + 4) X.1 = true) (i5 : px_in (x3 + 5) X.1 = true) (K : ∀ D', rel_ D' → pu_h260_1732 X x3 D' P) : pu_h260_1202 X x3 D P := by
  refine pu_u260_1202 ?_
  exact ⟨i1, i2, pu_I_imp (oq_112 h) fun y1 D1 e => ⟨i1, i2, pu_I_imp e fun y2 D2 g => by rw [if_pos g.1]; exact K D2 g.2⟩⟩
theorem la_1235 (h : rel_ D) (i1 : px_in (x3 + 1) X.1 = true) (i2 : px_in (x3 + 2) X.1 = true) (i3 : px_in (x3 + 3) X.1 = true) (i4 : px_in (x3 + 4) X.1 = true) (i5 : px_in (x3 + 5) X.1 = true) (K : ∀ D', rel_ D' → pu_h260_1732 X x3 D' P) : pu_h260_1235 X x3 D P := by
  refine pu_u260_1235 ?_
  exact ⟨i1, i2, pu_I_imp (oq_113 h) fun y1 D1 e => ⟨i1, i2, pu_I_imp e fun y2 D2 g => by rw [if_pos g.1]; exact K D2 g.2⟩⟩
theorem la_1268 (h : rel_ D) (i1 : px_in (x3 + 1) X.1 = true) (i2 : px_in (x3 + 2) X.1 = true) (i3 : px_in (x3 + 3) X.1 = true) (i4 : px_in (x3 + 4) X.1 = true) (i5 : px_in (x3 + 5) X.1 = true) (K : ∀ D', rel_ D' → pu_h260_1732 X x3 D' P) : pu_h260_1268 X x3 D P := by
  refine pu_u260_1268 ?_
  exact ⟨i1, i2, pu_I_imp (oq_114 h) fun y1 D1 e => ⟨i1, i2, pu_I_imp e fun y2 D2 g => by rw [if_pos g.1]; exact K D2 g.2⟩⟩
theorem la_1301 (h : rel_ D) (i1 : px_in (x3 + 1) X.1 = true) (i2 : px_in (x3 + 2) X.1 = true) (i3 : px_in (x3 + 3) X.1 = true) (i4 : px_in (x3 + 4) X.1 = true) (i5 : px_in (x3 + 5) X.1 = true) (K : ∀ D', rel_ D' → pu_h260_1732 X x3 D' P) : pu_h260_1301 X x3 D P := by
  refine pu_u260_1301 ?_
  exact ⟨i1, pu_I_imp (oq_115 h) fun y1 D1 e => ⟨i1, pu_I_imp e fun y2 D2 g => by rw [if_pos g.1]; exact K D2 g.2⟩⟩
theorem la_1324 (h : rel_ D) (i1 : px_in (x3 + 1) X.1 = true) (i2 : px_in (x3 + 2) X.1 = true) (i3 : px_in (x3 + 3) X.1 = true) (i4 : px_in (x3 + 4) X.1 = true) (i5 : px_in (x3 + 5) X.1 = true) (K : ∀ D', rel_ D' → pu_h260_1732 X x3 D' P) : pu_h260_1324 X x3 D P := by
  refine pu_u260_1324 ?_
  exact ⟨i1, pu_I_imp (oq_116 h) fun y1 D1 e => ⟨i1, pu_I_imp e fun y2 D2 g => by rw [if_pos g.1]; exact K D2 g.2⟩⟩
theorem la_1347 (h : rel_ D) (i1 : px_in (x3 + 1) X.1 = true) (i2 : px_in (x3 + 2) X.1 = true) (i3 : px_in (x3 + 3) X.1 = true) (i4 : px_in (x3 + 4) X.1 = true) (i5 : px_in (x3 + 5) X.1 = true) (K : ∀ D', rel_ D' → pu_h260_1732 X x3 D' P) : pu_h260_1347 X x3 D P := by
  refine pu_u260_1347 ?_
  exact pu_I_imp (oq_117 h) fun y1 D1 e => pu_I_imp e fun y2 D2 g => by rw [if_pos g.1]; exact K D2 g.2
theorem la_1360 (h : rel_ D) (i1 : px_in (x3 + 1) X.1 = true) (i2 : px_in (x3 + 2) X.1 = true) (i3 : px_in (x3 + 3) X.1 = true) (i4 : px_in (x3 + 4) X.1 = true) (i5 : px_in (x3 + 5) X.1 = true) (K : ∀ D', rel_ D' → pu_h260_1732 X x3 D' P) : pu_h260_1360 X x3 D P := by
  refine pu_u260_1360 ?_
  exact ⟨i1, i2, i3, pu_I_imp (oq_118 h) fun y1 D1 e => ⟨i1, i2, i3, pu_I_imp e fun y2 D2 g => by rw [if_pos g.1]; exact K D2 g.2⟩⟩
theorem la_1403 (h : rel_ D) (i1 : px_in (x3 + 1) X.1 = true) (i2 : px_in (x3 + 2) X.1 = true) (i3 : px_in (x3 + 3) X.1 = true) (i4 : px_in (x3 + 4) X.1 = true) (i5 : px_in (x3 + 5) X.1 = true) (K : ∀ D', rel_ D' → pu_h260_1732 X x3 D' P) : pu_h260_1403 X x3 D P := by
  refine pu_u260_1403 ?_
  exact ⟨i1, i2, pu_I_imp (oq_119 h) fun y1 D1 e => ⟨i1, i2, pu_I_imp e fun y2 D2 g => by rw [if_pos g.1]; exact K D2 g.2⟩⟩
theorem la_1436 (h : rel_ D) (i1 : px_in (x3 + 1) X.1 = true) (i2 : px_in (x3 + 2) X.1 = true) (i3 : px_in (x3 + 3) X.1 = true) (i4 : px_in (x3 + 4) X.1 = true) (i5 : px_in (x3 + 5) X.1 = true) (K : ∀ D', rel_ D' → pu_h260_1732 X x3 D' P) : pu_h260_1436 X x3 D P := by
  refine pu_u260_1436 ?_
  exact ⟨i1, pu_I_imp (oq_120 h) fun y1 D1 e => ⟨i1, pu_I_imp e fun y2 D2 g => by rw [if_pos g.1]; exact K D2 g.2⟩⟩
theorem la_1459 (h : rel_ D) (i1 : px_in (x3 + 1) X.1 = true) (i2 : px_in (x3 + 2) X.1 = true) (i3 : px_in (x3 + 3) X.1 = true) (i4 : px_in (x3 + 4) X.1 = true) (i5 : px_in (x3 + 5) X.1 = true) (K : ∀ D', rel_ D' → pu_h260_1732 X x3 D' P) : pu_h260_1459 X x3 D P := by
  refine pu_u260_1459 ?_
  refine ⟨i1, i2, ?_⟩
  by_cases z : X.2 (x3 + 2).toNatClampNeg = 0
  · rw [if_pos z]
    exact pu_I_imp (oq_121 h (x2 := 0)) fun y1 D1 e => ⟨i1, i2, by
      rw [if_pos z]
      exact pu_I_imp e fun y2 D2 g => by rw [if_pos g.1]; exact K D2 g.2⟩
  · rw [if_neg z]
    exact pu_I_imp (oq_121 h (x2 := 1)) fun y1 D1 e => ⟨i1, i2, by
      rw [if_neg z]
      exact pu_I_imp e fun y2 D2 g => by rw [if_pos g.1]; exact K D2 g.2⟩
theorem la_1508 (h : rel_ D) (i1 : px_in (x3 + 1) X.1 = true) (i2 : px_in (x3 + 2) X.1 = true) (i3 : px_in (x3 + 3) X.1 = true) (i4 : px_in (x3 + 4) X.1 = true) (i5 : px_in (x3 + 5) X.1 = true) (K : ∀ D', rel_ D' → pu_h260_1732 X x3 D' P) : pu_h260_1508 X x3 D P := by
  refine pu_u260_1508 ?_
  exact ⟨i1, i2, pu_I_imp (oq_122 h) fun y1 D1 e => ⟨i1, i2, pu_I_imp e fun y2 D2 g => by rw [if_pos g.1]; exact K D2 g.2⟩⟩
theorem la_1541 (h : rel_ D) (i1 : px_in (x3 + 1) X.1 = true) (i2 : px_in (x3 + 2) X.1 = true) (i3 : px_in (x3 + 3) X.1 = true) (i4 : px_in (x3 + 4) X.1 = true) (i5 : px_in (x3 + 5) X.1 = true) (K : ∀ D', rel_ D' → pu_h260_1732 X x3 D' P) : pu_h260_1541 X x3 D P := by
  refine pu_u260_1541 ?_
  exact ⟨i1, i2, pu_I_imp (oq_123 h) fun y1 D1 e => ⟨i1, i2, pu_I_imp e fun y2 D2 g => by rw [if_pos g.1]; exact K D2 g.2⟩⟩
theorem la_1574 (h : rel_ D) (i1 : px_in (x3 + 1) X.1 = true) (i2 : px_in (x3 + 2) X.1 = true) (i3 : px_in (x3 + 3) X.1 = true) (i4 : px_in (x3 + 4) X.1 = true) (i5 : px_in (x3 + 5) X.1 = true) (K : ∀ D', rel_ D' → pu_h260_1732 X x3 D' P) : pu_h260_1574 X x3 D P := by
  refine pu_u260_1574 ?_
  exact ⟨i1, i2, i3, pu_I_imp (oq_124 h) fun y1 D1 e => ⟨i1, i2, i3, pu_I_imp e fun y2 D2 g => by rw [if_pos g.1]; exact K D2 g.2⟩⟩
theorem la_1617 (h : rel_ D) (i1 : px_in (x3 + 1) X.1 = true) (i2 : px_in (x3 + 2) X.1 = true) (i3 : px_in (x3 + 3) X.1 = true) (i4 : px_in (x3 + 4) X.1 = true) (i5 : px_in (x3 + 5) X.1 = true) (K : ∀ D', rel_ D' → pu_h260_1732 X x3 D' P) : pu_h260_1617 X x3 D P := by
  refine pu_u260_1617 ?_
  exact ⟨i1, i2, i3, pu_I_imp (oq_125 h) fun y1 D1 e => ⟨i1, i2, i3, pu_I_imp e fun y2 D2 g => by rw [if_pos g.1]; exact K D2 g.2⟩⟩
theorem la_1660 (h : rel_ D) (i1 : px_in (x3 + 1) X.1 = true) (i2 : px_in (x3 + 2) X.1 = true) (i3 : px_in (x3 + 3) X.1 = true) (i4 : px_in (x3 + 4) X.1 = true) (i5 : px_in (x3 + 5) X.1 = true) (K : ∀ D', rel_ D' → pu_h260_1732 X x3 D' P) : pu_h260_1660 X x3 D P := by
  refine pu_u260_1660 ?_
  exact ⟨i1, pu_I_imp (oq_126 h) fun y1 D1 e => ⟨i1, pu_I_imp e fun y2 D2 g => by rw [if_pos g.1]; exact K D2 g.2⟩⟩
theorem la_1683 (h : rel_ D) (i1 : px_in (x3 + 1) X.1 = true) (i2 : px_in (x3 + 2) X.1 = true) (i3 : px_in (x3 + 3) X.1 = true) (i4 : px_in (x3 + 4) X.1 = true) (i5 : px_in (x3 + 5) X.1 = true) (K : ∀ D', rel_ D' → pu_h260_1732 X x3 D' P) : pu_h260_1683 X x3 D P := by
  refine pu_u260_1683 ?_
  exact pu_I_imp (oq_127 h) fun y1 D1 e => pu_I_imp e fun y2 D2 g => by rw [if_pos g.1]; exact K D2 g.2
theorem la_1696 (h : rel_ D) (i1 : px_in (x3 + 1) X.1 = true) (i2 : px_in (x3 + 2) X.1 = true) (i3 : px_in (x3 + 3) X.1 = true) (i4 : px_in (x3 + 4) X.1 = true) (i5 : px_in (x3 + 5) X.1 = true) (K : ∀ D', rel_ D' → pu_h260_1732 X x3 D' P) : pu_h260_1696 X x3 D P := by
  refine pu_u260_1696 ?_
  exact pu_I_imp (oq_128 h) fun y1 D1 e => pu_I_imp e fun y2 D2 g => by rw [if_pos g.1]; exact K D2 g.2
theorem la_1709 (h : rel_ D) (i1 : px_in (x3 + 1) X.1 = true) (i2 : px_in (x3 + 2) X.1 = true) (i3 : px_in (x3 + 3) X.1 = true) (i4 : px_in (x3 + 4) X.1 = true) (i5 : px_in (x3 + 5) X.1 = true) (K : ∀ D', rel_ D' → pu_h260_1732 X x3 D' P) : pu_h260_1709 X x3 D P := by
  refine pu_u260_1709 ?_
  exact ⟨i1, pu_I_imp (oq_129 h) fun y1 D1 e => ⟨i1, pu_I_imp e fun y2 D2 g => by rw [if_pos g.1]; exact K D2 g.2⟩⟩
theorem la_all (h : rel_ D) (i0 : px_in x3 X.1 = true) (i1 : px_in (x3 + 1) X.1 = true) (i2 : px_in (x3 + 2) X.1 = true) (i3 : px_in (x3 + 3) X.1 = true) (i4 : px_in (x3 + 4) X.1 = true) (i5 : px_in (x3 + 5) X.1 = true) (hc : ¬ Int32.ofNat X.1 - 6 < x3) (K : ∀ D', rel_ D' → pu_h260_1732 X x3 D' P) : pu_h260_18 X x3 D P := by
  refine pu_u260_18 ?_
  rw [if_neg hc]
  exact ⟨i0, ite_i (la_220 h i1 i2 i3 i4 i5 K) (ite_i (la_263 h i1 i2 i3 i4 i5 K) (ite_i (la_336 h i1 i2 i3 i4 i5 K) (ite_i (la_399 h i1 i2 i3 i4 i5 K) (ite_i (la_433 h i1 i2 i3 i4 i5 K) (ite_i (la_476 h i1 i2 i3 i4 i5 K) (ite_i (la_499 h i1 i2 i3 i4 i5 K) (ite_i (la_532 h i1 i2 i3 i4 i5 K) (ite_i (la_585 h i1 i2 i3 i4 i5 K) (ite_i (la_618 h i1 i2 i3 i4 i5 K) (ite_i (la_651 h i1 i2 i3 i4 i5 K) (ite_i (la_684 h i1 i2 i3 i4 i5 K) (ite_i (la_727 h i1 i2 i3 i4 i5 K) (ite_i (la_760 h i1 i2 i3 i4 i5 K) (ite_i (la_783 h i1 i2 i3 i4 i5 K) (ite_i (la_796 h i1 i2 i3 i4 i5 K) (ite_i (la_829 h i1 i2 i3 i4 i5 K) (ite_i (la_862 h i1 i2 i3 i4 i5 K) (ite_i (la_895 h i1 i2 i3 i4 i5 K) (ite_i (la_944 h i1 i2 i3 i4 i5 K) (ite_i (la_997 h i1 i2 i3 i4 i5 K) (ite_i (la_1050 h i1 i2 i3 i4 i5 K) (ite_i (la_1093 h i1 i2 i3 i4 i5 K) (ite_i (la_1136 h i1 i2 i3 i4 i5 K) (ite_i (la_1169 h i1 i2 i3 i4 i5 K) (ite_i (la_1202 h i1 i2 i3 i4 i5 K) (ite_i (la_1235 h i1 i2 i3 i4 i5 K) (ite_i (la_1268 h i1 i2 i3 i4 i5 K) (ite_i (la_1301 h i1 i2 i3 i4 i5 K) (ite_i (la_1324 h i1 i2 i3 i4 i5 K) (ite_i (la_1347 h i1 i2 i3 i4 i5 K) (ite_i (la_1360 h i1 i2 i3 i4 i5 K) (ite_i (la_1403 h i1 i2 i3 i4 i5 K) (ite_i (la_1436 h i1 i2 i3 i4 i5 K) (ite_i (la_1459 h i1 i2 i3 i4 i5 K) (ite_i (la_1508 h i1 i2 i3 i4 i5 K) (ite_i (la_1541 h i1 i2 i3 i4 i5 K) (ite_i (la_1574 h i1 i2 i3 i4 i5 K) (ite_i (la_1617 h i1 i2 i3 i4 i5 K) (ite_i (la_1660 h i1 i2 i3 i4 i5 K) (ite_i (la_1683 h i1 i2 i3 i4 i5 K) (ite_i (la_1696 h i1 i2 i3 i4 i5 K) (ite_i (la_1709 h i1 i2 i3 i4 i5 K) (K D h)))))))))))))))))))))))))))))))))))))))))))⟩
end LW
theorem la_c {n i : Nat} (hn : n ≤ 3072) (hi : i < 2147483648) : (Int32.ofNat n - 6 < nu_i i) = ((n : Int) - 6 < i) := by
  have t1 := nu_toI hi
  have t3 := nu_toI (k := n) (by omega)
  have t2 : (6 : Int32).toInt = 6 := by decide
  have u3 : (Int32.ofNat n - 6).toInt = (n : Int) - 6 := by
    rw [Int32.toInt_sub, t2]
    show ((nu_i n).toInt - 6).bmod _ = _
    rw [t3, Int.bmod_def]
    split <;> omega
  rw [Int32.lt_iff_toInt_lt, u3, t1]
theorem la_loop {X : px_X} (hX : X.1 ≤ 3072) : ∀ (f i : Nat) (D : pu_D), X.1 < i + f → i ≤ 3072 → rel_ D → pu_h260_18 X (nu_i i) D (fun y _ => y = 1)
  | 0, i, D, hf, hi, h => by
    refine pu_u260_18 ?_
    rw [if_pos (by rw [la_c hX (by omega)]; omega)]
    exact pu_u260_1738 rfl
  | f + 1, i, D, hf, hi, h => by
    by_cases hc : Int32.ofNat X.1 - 6 < nu_i i
    · refine pu_u260_18 ?_
      rw [if_pos hc]
      exact pu_u260_1738 rfl
    · have hc2 := hc
      rw [la_c hX (by omega)] at hc2
      have inn : ∀ j : Nat, j < 6 → px_in (nu_i (i + j)) X.1 = true := fun j hj => by rw [nu_in (by omega)]; omega
      refine la_all h (inn 0 (by omega)) ?_ ?_ ?_ ?_ ?_ hc fun D' h' => pu_u260_1732 ?_
      · rw [nu_addn]; exact inn 1 (by omega)
      · rw [nu_addn]; exact inn 2 (by omega)
      · rw [nu_addn]; exact inn 3 (by omega)
      · rw [nu_addn]; exact inn 4 (by omega)
      · rw [nu_addn]; exact inn 5 (by omega)
      · rw [nu_addn]; exact la_loop hX f (i + 6) D' (by omega) (by omega) h'
