/-! THE STREET as numbers: S t i w the w-th number of the i-th thing of table t (sorts, places, trees, walls, windows, shops, pools; a place's lamp: 0 none, s + 1 of sort s); S 7 0 j the measures; S 8 0 t how many. -/
def mo_ (t : Nat) : Nat := [6, 9, 12, 12, 12, 8, 6].getD t 0
def en_ (t w a : Nat) : Int32 := if t = 1 ∧ w = 2 then nu_l a else nu_i a
/-- the class's street at cell b -/
def re_C (b : Nat) (S : Nat → Nat → Nat → Nat) (D : pu_D) : Prop := (∀ t, t < 7 → D.1 (b + 2 + 2 * t) 2 = nu_i (S 8 0 t) ∧ D.1 (b + 2 + 2 * t) 0 = nu_i (mo_ t) ∧ ∀ i, i < S 8 0 t → ∀ w, w < 4 → D.1 (b + 3 + 2 * t) (i * 4 + w) = en_ t w (S t i w)) ∧ ∀ j, j < 4 → D.1 (b + 1) j = nu_i (S 7 0 j)
def wf_ (S : Nat → Nat → Nat → Nat) : Prop :=
  (∀ t, t < 7 → S 8 0 t ≤ mo_ t) ∧
  (∀ i, i < S 8 0 0 → (1 ≤ S 0 i 0 ∧ S 0 i 0 ≤ 12) ∧ (1 ≤ S 0 i 1 ∧ S 0 i 1 ≤ 99) ∧ S 0 i 2 ≤ 99 ∧ (1 ≤ S 0 i 3 ∧ S 0 i 3 ≤ 99)) ∧
  (∀ i, i < S 8 0 1 → S 1 i 0 < 120 ∧ S 1 i 1 ≤ 99 ∧ S 1 i 2 ≤ S 8 0 0 ∧ S 1 i 3 ≤ 1) ∧
  (∀ t, t < 7 → 2 ≤ t → ∀ i, i < S 8 0 t → S t i 0 < 120) ∧
  (∀ i, i < S 8 0 4 → S 4 i 1 ≤ 999) ∧
  (∀ i, i < S 8 0 5 → (1 ≤ S 5 i 1 ∧ S 5 i 1 ≤ 999) ∧ S 5 i 2 ≤ 11) ∧
  (S 7 0 0 ≤ 999 ∧ (1 ≤ S 7 0 1 ∧ S 7 0 1 ≤ 99) ∧ (1 ≤ S 7 0 2 ∧ S 7 0 2 ≤ 12) ∧ (1 ≤ S 7 0 3 ∧ S 7 0 3 ≤ 60))
section RE
variable {X : px_X} {S : Nat → Nat → Nat → Nat} {D : pu_D}
theorem wf_n (h : wf_ S) : S 8 0 0 ≤ 6 ∧ S 8 0 1 ≤ 9 ∧ S 8 0 2 ≤ 12 ∧ S 8 0 3 ≤ 12 ∧ S 8 0 4 ≤ 12 ∧ S 8 0 5 ≤ 8 ∧ S 8 0 6 ≤ 6 := ⟨h.1 0 (by decide), h.1 1 (by decide), h.1 2 (by decide), h.1 3 (by decide), h.1 4 (by decide), h.1 5 (by decide), h.1 6 (by decide)⟩
theorem wf_p (h : wf_ S) {i : Nat} (hi : i < S 8 0 1) : S 1 i 0 < 120 ∧ S 1 i 1 ≤ 99 ∧ S 1 i 2 ≤ S 8 0 0 ∧ S 1 i 3 ≤ 1 := h.2.2.1 i hi
theorem wf_s (h : wf_ S) {i : Nat} (hi : i < S 8 0 0) : (1 ≤ S 0 i 0 ∧ S 0 i 0 ≤ 12) ∧ (1 ≤ S 0 i 1 ∧ S 0 i 1 ≤ 99) ∧ S 0 i 2 ≤ 99 ∧ (1 ≤ S 0 i 3 ∧ S 0 i 3 ≤ 99) := h.2.1 i hi
theorem wf_t (h : wf_ S) (t : Nat) (ht : t < 7) (h2 : 2 ≤ t) {i : Nat} (hi : i < S 8 0 t) : S t i 0 < 120 := h.2.2.2.1 t ht h2 i hi
theorem wf_w (h : wf_ S) {i : Nat} (hi : i < S 8 0 4) : S 4 i 1 ≤ 999 := h.2.2.2.2.1 i hi
theorem wf_h (h : wf_ S) {i : Nat} (hi : i < S 8 0 5) : (1 ≤ S 5 i 1 ∧ S 5 i 1 ≤ 999) ∧ S 5 i 2 ≤ 11 := h.2.2.2.2.2.1 i hi
theorem wf_m (h : wf_ S) : S 7 0 0 ≤ 999 ∧ (1 ≤ S 7 0 1 ∧ S 7 0 1 ≤ 99) ∧ (1 ≤ S 7 0 2 ∧ S 7 0 2 ≤ 12) ∧ (1 ≤ S 7 0 3 ∧ S 7 0 3 ≤ 60) := h.2.2.2.2.2.2
/-- the counts of the street now -/
theorem re_n (h : re_C 1 S D) : D.1 3 2 = nu_i (S 8 0 0) ∧ D.1 5 2 = nu_i (S 8 0 1) ∧ D.1 7 2 = nu_i (S 8 0 2) ∧ D.1 9 2 = nu_i (S 8 0 3) ∧ D.1 11 2 = nu_i (S 8 0 4) ∧ D.1 13 2 = nu_i (S 8 0 5) ∧ D.1 15 2 = nu_i (S 8 0 6) :=
  ⟨(h.1 0 (by decide)).1, (h.1 1 (by decide)).1, (h.1 2 (by decide)).1, (h.1 3 (by decide)).1, (h.1 4 (by decide)).1, (h.1 5 (by decide)).1, (h.1 6 (by decide)).1⟩
theorem re_mo (h : re_C 1 S D) : D.1 3 0 = 6 ∧ D.1 5 0 = 9 ∧ D.1 7 0 = 12 ∧ D.1 9 0 = 12 ∧ D.1 11 0 = 12 ∧ D.1 13 0 = 8 ∧ D.1 15 0 = 6 :=
  ⟨(h.1 0 (by decide)).2.1, (h.1 1 (by decide)).2.1, (h.1 2 (by decide)).2.1, (h.1 3 (by decide)).2.1, (h.1 4 (by decide)).2.1, (h.1 5 (by decide)).2.1, (h.1 6 (by decide)).2.1⟩
theorem re_m (h : re_C 1 S D) : D.1 2 (Int32.toNatClampNeg 0) = nu_i (S 7 0 0) ∧ D.1 2 (Int32.toNatClampNeg 1) = nu_i (S 7 0 1) ∧ D.1 2 (Int32.toNatClampNeg 2) = nu_i (S 7 0 2) ∧ D.1 2 (Int32.toNatClampNeg 3) = nu_i (S 7 0 3) :=
  ⟨h.2 0 (by decide), h.2 1 (by decide), h.2 2 (by decide), h.2 3 (by decide)⟩
theorem sp_82 {q c i w : Nat} {P : Int32 → pu_D → Prop} (hq : pu_cl q = 6) (hc : D.1 q 2 = nu_i c) (hm : c * 4 ≤ pu_ln (pu_rf q 1)) (hb : c ≤ 12) (hi : i < c) (hw : w < 4) : pu_I X 82 [.ref q, .int (nu_i i), .int (nu_i w)] D P = P (D.1 (pu_rf q 1) (i * 4 + w)) D := by
  refine pu_I_of (pu_e82 hq ?_) P
  have e : (nu_i i * 4) + nu_i w = nu_i (i * 4 + w) := by rw [nu_muln, nu_add]
  rw [e, hc]
  simp (disch := omega) only [nu_lt0, nu_lt, nu_ltn, nu_in, nu_ix, hi, hw, if_true, if_false]
  exact ⟨by omega, trivial, trivial⟩
theorem sp_n3_0 (hC : re_C 1 S D) (hW : wf_ S) {i : Nat} {P : Int32 → pu_D → Prop} (hi : i < S 8 0 0) : pu_I X 82 [.ref 3, .int (nu_i i), .int 0] D P = P (nu_i (S 0 i 0)) D := by
  have hn := hW.1 0 (by decide)
  have h := sp_82 (X := X) (P := P) (w := 0) pu_c3 (hC.1 0 (by decide)).1 (by rw [pu_r3_1, pu_ln4]; have : mo_ 0 = 6 := rfl; omega) (by have : mo_ 0 = 6 := rfl; omega) hi (by decide)
  rw [pu_r3_1] at h
  rw [(hC.1 0 (by decide)).2.2 i hi 0 (by decide)] at h
  exact h
theorem sp_n3_1 (hC : re_C 1 S D) (hW : wf_ S) {i : Nat} {P : Int32 → pu_D → Prop} (hi : i < S 8 0 0) : pu_I X 82 [.ref 3, .int (nu_i i), .int 1] D P = P (nu_i (S 0 i 1)) D := by
  have hn := hW.1 0 (by decide)
  have h := sp_82 (X := X) (P := P) (w := 1) pu_c3 (hC.1 0 (by decide)).1 (by rw [pu_r3_1, pu_ln4]; have : mo_ 0 = 6 := rfl; omega) (by have : mo_ 0 = 6 := rfl; omega) hi (by decide)
  rw [pu_r3_1] at h
  rw [(hC.1 0 (by decide)).2.2 i hi 1 (by decide)] at h
  exact h
theorem sp_n3_2 (hC : re_C 1 S D) (hW : wf_ S) {i : Nat} {P : Int32 → pu_D → Prop} (hi : i < S 8 0 0) : pu_I X 82 [.ref 3, .int (nu_i i), .int 2] D P = P (nu_i (S 0 i 2)) D := by
  have hn := hW.1 0 (by decide)
  have h := sp_82 (X := X) (P := P) (w := 2) pu_c3 (hC.1 0 (by decide)).1 (by rw [pu_r3_1, pu_ln4]; have : mo_ 0 = 6 := rfl; omega) (by have : mo_ 0 = 6 := rfl; omega) hi (by decide)
  rw [pu_r3_1] at h
  rw [(hC.1 0 (by decide)).2.2 i hi 2 (by decide)] at h
  exact h
theorem sp_n3_3 (hC : re_C 1 S D) (hW : wf_ S) {i : Nat} {P : Int32 → pu_D → Prop} (hi : i < S 8 0 0) : pu_I X 82 [.ref 3, .int (nu_i i), .int 3] D P = P (nu_i (S 0 i 3)) D := by
  have hn := hW.1 0 (by decide)
  have h := sp_82 (X := X) (P := P) (w := 3) pu_c3 (hC.1 0 (by decide)).1 (by rw [pu_r3_1, pu_ln4]; have : mo_ 0 = 6 := rfl; omega) (by have : mo_ 0 = 6 := rfl; omega) hi (by decide)
  rw [pu_r3_1] at h
  rw [(hC.1 0 (by decide)).2.2 i hi 3 (by decide)] at h
  exact h
theorem sp_n5_0 (hC : re_C 1 S D) (hW : wf_ S) {i : Nat} {P : Int32 → pu_D → Prop} (hi : i < S 8 0 1) : pu_I X 82 [.ref 5, .int (nu_i i), .int 0] D P = P (nu_i (S 1 i 0)) D := by
  have hn := hW.1 1 (by decide)
  have h := sp_82 (X := X) (P := P) (w := 0) pu_c5 (hC.1 1 (by decide)).1 (by rw [pu_r5_1, pu_ln6]; have : mo_ 1 = 9 := rfl; omega) (by have : mo_ 1 = 9 := rfl; omega) hi (by decide)
  rw [pu_r5_1] at h
  rw [(hC.1 1 (by decide)).2.2 i hi 0 (by decide)] at h
  exact h
theorem sp_n5_1 (hC : re_C 1 S D) (hW : wf_ S) {i : Nat} {P : Int32 → pu_D → Prop} (hi : i < S 8 0 1) : pu_I X 82 [.ref 5, .int (nu_i i), .int 1] D P = P (nu_i (S 1 i 1)) D := by
  have hn := hW.1 1 (by decide)
  have h := sp_82 (X := X) (P := P) (w := 1) pu_c5 (hC.1 1 (by decide)).1 (by rw [pu_r5_1, pu_ln6]; have : mo_ 1 = 9 := rfl; omega) (by have : mo_ 1 = 9 := rfl; omega) hi (by decide)
  rw [pu_r5_1] at h
  rw [(hC.1 1 (by decide)).2.2 i hi 1 (by decide)] at h
  exact h
theorem sp_n5_2 (hC : re_C 1 S D) (hW : wf_ S) {i : Nat} {P : Int32 → pu_D → Prop} (hi : i < S 8 0 1) : pu_I X 82 [.ref 5, .int (nu_i i), .int 2] D P = P (nu_l (S 1 i 2)) D := by
  have hn := hW.1 1 (by decide)
  have h := sp_82 (X := X) (P := P) (w := 2) pu_c5 (hC.1 1 (by decide)).1 (by rw [pu_r5_1, pu_ln6]; have : mo_ 1 = 9 := rfl; omega) (by have : mo_ 1 = 9 := rfl; omega) hi (by decide)
  rw [pu_r5_1] at h
  rw [(hC.1 1 (by decide)).2.2 i hi 2 (by decide)] at h
  exact h
theorem sp_n5_3 (hC : re_C 1 S D) (hW : wf_ S) {i : Nat} {P : Int32 → pu_D → Prop} (hi : i < S 8 0 1) : pu_I X 82 [.ref 5, .int (nu_i i), .int 3] D P = P (nu_i (S 1 i 3)) D := by
  have hn := hW.1 1 (by decide)
  have h := sp_82 (X := X) (P := P) (w := 3) pu_c5 (hC.1 1 (by decide)).1 (by rw [pu_r5_1, pu_ln6]; have : mo_ 1 = 9 := rfl; omega) (by have : mo_ 1 = 9 := rfl; omega) hi (by decide)
  rw [pu_r5_1] at h
  rw [(hC.1 1 (by decide)).2.2 i hi 3 (by decide)] at h
  exact h
theorem sp_n7_0 (hC : re_C 1 S D) (hW : wf_ S) {i : Nat} {P : Int32 → pu_D → Prop} (hi : i < S 8 0 2) : pu_I X 82 [.ref 7, .int (nu_i i), .int 0] D P = P (nu_i (S 2 i 0)) D := by
  have hn := hW.1 2 (by decide)
  have h := sp_82 (X := X) (P := P) (w := 0) pu_c7 (hC.1 2 (by decide)).1 (by rw [pu_r7_1, pu_ln8]; have : mo_ 2 = 12 := rfl; omega) (by have : mo_ 2 = 12 := rfl; omega) hi (by decide)
  rw [pu_r7_1] at h
  rw [(hC.1 2 (by decide)).2.2 i hi 0 (by decide)] at h
  exact h
theorem sp_n9_0 (hC : re_C 1 S D) (hW : wf_ S) {i : Nat} {P : Int32 → pu_D → Prop} (hi : i < S 8 0 3) : pu_I X 82 [.ref 9, .int (nu_i i), .int 0] D P = P (nu_i (S 3 i 0)) D := by
  have hn := hW.1 3 (by decide)
  have h := sp_82 (X := X) (P := P) (w := 0) pu_c9 (hC.1 3 (by decide)).1 (by rw [pu_r9_1, pu_ln10]; have : mo_ 3 = 12 := rfl; omega) (by have : mo_ 3 = 12 := rfl; omega) hi (by decide)
  rw [pu_r9_1] at h
  rw [(hC.1 3 (by decide)).2.2 i hi 0 (by decide)] at h
  exact h
theorem sp_n11_0 (hC : re_C 1 S D) (hW : wf_ S) {i : Nat} {P : Int32 → pu_D → Prop} (hi : i < S 8 0 4) : pu_I X 82 [.ref 11, .int (nu_i i), .int 0] D P = P (nu_i (S 4 i 0)) D := by
  have hn := hW.1 4 (by decide)
  have h := sp_82 (X := X) (P := P) (w := 0) pu_c11 (hC.1 4 (by decide)).1 (by rw [pu_r11_1, pu_ln12]; have : mo_ 4 = 12 := rfl; omega) (by have : mo_ 4 = 12 := rfl; omega) hi (by decide)
  rw [pu_r11_1] at h
  rw [(hC.1 4 (by decide)).2.2 i hi 0 (by decide)] at h
  exact h
theorem sp_n11_1 (hC : re_C 1 S D) (hW : wf_ S) {i : Nat} {P : Int32 → pu_D → Prop} (hi : i < S 8 0 4) : pu_I X 82 [.ref 11, .int (nu_i i), .int 1] D P = P (nu_i (S 4 i 1)) D := by
  have hn := hW.1 4 (by decide)
  have h := sp_82 (X := X) (P := P) (w := 1) pu_c11 (hC.1 4 (by decide)).1 (by rw [pu_r11_1, pu_ln12]; have : mo_ 4 = 12 := rfl; omega) (by have : mo_ 4 = 12 := rfl; omega) hi (by decide)
  rw [pu_r11_1] at h
  rw [(hC.1 4 (by decide)).2.2 i hi 1 (by decide)] at h
  exact h
theorem sp_n13_0 (hC : re_C 1 S D) (hW : wf_ S) {i : Nat} {P : Int32 → pu_D → Prop} (hi : i < S 8 0 5) : pu_I X 82 [.ref 13, .int (nu_i i), .int 0] D P = P (nu_i (S 5 i 0)) D := by
  have hn := hW.1 5 (by decide)
  have h := sp_82 (X := X) (P := P) (w := 0) pu_c13 (hC.1 5 (by decide)).1 (by rw [pu_r13_1, pu_ln14]; have : mo_ 5 = 8 := rfl; omega) (by have : mo_ 5 = 8 := rfl; omega) hi (by decide)
  rw [pu_r13_1] at h
  rw [(hC.1 5 (by decide)).2.2 i hi 0 (by decide)] at h
  exact h
theorem sp_n13_1 (hC : re_C 1 S D) (hW : wf_ S) {i : Nat} {P : Int32 → pu_D → Prop} (hi : i < S 8 0 5) : pu_I X 82 [.ref 13, .int (nu_i i), .int 1] D P = P (nu_i (S 5 i 1)) D := by
  have hn := hW.1 5 (by decide)
  have h := sp_82 (X := X) (P := P) (w := 1) pu_c13 (hC.1 5 (by decide)).1 (by rw [pu_r13_1, pu_ln14]; have : mo_ 5 = 8 := rfl; omega) (by have : mo_ 5 = 8 := rfl; omega) hi (by decide)
  rw [pu_r13_1] at h
  rw [(hC.1 5 (by decide)).2.2 i hi 1 (by decide)] at h
  exact h
theorem sp_n13_2 (hC : re_C 1 S D) (hW : wf_ S) {i : Nat} {P : Int32 → pu_D → Prop} (hi : i < S 8 0 5) : pu_I X 82 [.ref 13, .int (nu_i i), .int 2] D P = P (nu_i (S 5 i 2)) D := by
  have hn := hW.1 5 (by decide)
  have h := sp_82 (X := X) (P := P) (w := 2) pu_c13 (hC.1 5 (by decide)).1 (by rw [pu_r13_1, pu_ln14]; have : mo_ 5 = 8 := rfl; omega) (by have : mo_ 5 = 8 := rfl; omega) hi (by decide)
  rw [pu_r13_1] at h
  rw [(hC.1 5 (by decide)).2.2 i hi 2 (by decide)] at h
  exact h
theorem sp_n15_0 (hC : re_C 1 S D) (hW : wf_ S) {i : Nat} {P : Int32 → pu_D → Prop} (hi : i < S 8 0 6) : pu_I X 82 [.ref 15, .int (nu_i i), .int 0] D P = P (nu_i (S 6 i 0)) D := by
  have hn := hW.1 6 (by decide)
  have h := sp_82 (X := X) (P := P) (w := 0) pu_c15 (hC.1 6 (by decide)).1 (by rw [pu_r15_1, pu_ln16]; have : mo_ 6 = 6 := rfl; omega) (by have : mo_ 6 = 6 := rfl; omega) hi (by decide)
  rw [pu_r15_1] at h
  rw [(hC.1 6 (by decide)).2.2 i hi 0 (by decide)] at h
  exact h
/-! small methods of the class -/
theorem sp_143 {a : Nat} {P : Int32 → pu_D → Prop} (ha : a < 120) : pu_I X 143 [.int (nu_i a)] D P = P (nu_i (a / 2)) D := by
  refine pu_I_of (pu_e143 ?_) P
  have h : (List.range 120).all (fun a => decide (nu_i a >>> (1 &&& 31) = nu_i (a / 2))) = true := by decide +kernel
  exact ⟨of_decide_eq_true (List.all_eq_true.mp h a (List.mem_range.mpr ha)), rfl⟩
theorem sp_144 {a : Nat} {P : Int32 → pu_D → Prop} (ha : a < 120) : pu_I X 144 [.int (nu_i a)] D P = P (nu_i (a % 2)) D := by
  refine pu_I_of (pu_e144 ?_) P
  have h : (List.range 120).all (fun a => decide (nu_i a &&& 1 = nu_i (a % 2))) = true := by decide +kernel
  exact ⟨of_decide_eq_true (List.all_eq_true.mp h a (List.mem_range.mpr ha)), rfl⟩
theorem sp_142 {m p : Nat} {P : Int32 → pu_D → Prop} (hm : m < 512) (hp : p < 9) : pu_I X 142 [.int (nu_i m), .int (nu_i p)] D P = P (nu_b (m.testBit p = true)) D := by
  refine pu_I_of (pu_e142 ?_) P
  rw [nu_inS hm hp]
  by_cases h : m.testBit p = true
  · rw [nu_bT h]; simp
  · rw [nu_bF h]; simp
theorem sp_140 {a : Nat} {P : Int32 → pu_D → Prop} (ha : a < 12) : pu_I X 140 [.int (nu_i a)] D P = P 1 D := by
  refine pu_I_of (pu_e140 ?_) P
  simp (disch := omega) only [nu_lt0, nu_ltn, ha, if_true, if_false]
  exact ⟨trivial, trivial⟩
theorem sp_52 (hC : re_C 1 S D) (hW : wf_ S) {p : Nat} {P : Int32 → pu_D → Prop} (hp : p < S 8 0 1) : pu_I X 52 [.ref 1, .int (nu_i p)] D P = P (nu_b (¬ S 1 p 2 = 0)) D := by
  have hn := wf_n hW
  have hv := wf_p hW hp
  refine pu_I_of (pu_e52 ?_) P
  simp (disch := omega) only [sp_n5_2 hC hW, nu_lm]
  by_cases h : S 1 p 2 = 0
  · simp [h, nu_b]
  · simp [h, nu_b]
theorem sp_53 (hC : re_C 1 S D) (hW : wf_ S) {p : Nat} {P : Int32 → pu_D → Prop} (hp : p < S 8 0 1) : pu_I X 53 [.ref 1, .int (nu_i p)] D P = P (nu_b (S 1 p 3 = 1)) D := by
  have hn := wf_n hW
  have hv := wf_p hW hp
  refine pu_I_of (pu_e53 ?_) P
  simp (disch := omega) only [sp_n5_3 hC hW, nu_eqn]
  by_cases h : S 1 p 3 = 1
  · simp [h, nu_b]
  · simp [h, nu_b]
/-- the places with lamps; with lamps that burn -/
def lb_ (S : Nat → Nat → Nat → Nat) : Nat := bs_ (fun p => !decide (S 1 p 2 = 0)) (S 8 0 1)
def bu_ (S : Nat → Nat → Nat → Nat) (p : Nat) : Bool := !decide (S 1 p 2 = 0) && !decide (S 1 p 3 = 1)
def bb_ (S : Nat → Nat → Nat → Nat) : Nat := bs_ (bu_ S) (S 8 0 1)
theorem sp_55 (hC : re_C 1 S D) (hW : wf_ S) {P : Int32 → pu_D → Prop} : pu_I X 55 [.ref 1] D P = P (nu_i (lb_ S)) D := by
  have hn := wf_n hW
  obtain ⟨-, c5, -⟩ := re_n hC
  refine pu_I_of (pu_e55 ?_) P
  refine lo_ix (fun a x => pu_h55_4 X (nu_i a) x D _) (S 8 0 1) (bs_ (fun p => !decide (S 1 p 2 = 0))) (fun i hi h => ?_) ?_
  · have h5 := bs_512 (fun p => !decide (S 1 p 2 = 0)) (n := i) (by omega)
    refine pu_u55_4 ?_
    simp (disch := first | assumption | omega) only [c5, nu_lt, hi, if_true, sp_52 hC hW, nu_b0, nu_orS, nu_addn]
    by_cases hb : S 1 i 2 = 0
    · simpa [bs_, hb] using h
    · simpa [bs_, hb] using h
  · refine pu_u55_4 ?_
    simp (disch := omega) only [c5, nu_lt, Nat.lt_irrefl, if_false]
    exact ⟨rfl, trivial⟩
theorem sp_56 (hC : re_C 1 S D) (hW : wf_ S) {P : Int32 → pu_D → Prop} : pu_I X 56 [.ref 1] D P = P (nu_i (bb_ S)) D := by
  have hn := wf_n hW
  obtain ⟨-, c5, -⟩ := re_n hC
  refine pu_I_of (pu_e56 ?_) P
  refine lo_ix (fun a x => pu_h56_4 X (nu_i a) x D _) (S 8 0 1) (bs_ (bu_ S)) (fun i hi h => ?_) ?_
  · have h5 := bs_512 (bu_ S) (n := i) (by omega)
    refine pu_u56_4 ?_
    simp (disch := first | assumption | omega) only [c5, nu_lt, hi, if_true, sp_52 hC hW, sp_53 hC hW, nu_b0, nu_orS, nu_addn]
    by_cases hb : S 1 i 2 = 0
    · simpa [bs_, bu_, hb] using h
    · by_cases hb2 : S 1 i 3 = 1
      · simpa [bs_, bu_, hb, hb2] using h
      · simpa [bs_, bu_, hb, hb2] using h
  · refine pu_u56_4 ?_
    simp (disch := omega) only [c5, nu_lt, Nat.lt_irrefl, if_false]
    exact ⟨rfl, trivial⟩
theorem bb_lt (hW : wf_ S) : bb_ S < 512 := bs_512 _ (wf_n hW).2.1
theorem lb_lt (hW : wf_ S) : lb_ S < 512 := bs_512 _ (wf_n hW).2.1
end RE
