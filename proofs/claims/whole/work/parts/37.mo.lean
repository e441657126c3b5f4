/-! THE REFERENCE'S STREET, as numbers. -/
def cm_ (t : Nat) : Nat := [87, 91, 95, 96, 97, 99, 102].getD t 0
def wd_ (t : Nat) : Nat := [4, 4, 1, 1, 2, 3, 1].getD t 0
def re_M (S : Nat → Nat → Nat → Nat) (D : pu_D) : Prop := (∀ t, t < 7 → D.1 85 t = nu_i (S 8 0 t) ∧ ∀ w, w < wd_ t → ∀ i, i < S 8 0 t → D.1 (cm_ t + w) i = en_ t w (S t i w)) ∧ ∀ j, j < 4 → D.1 85 (7 + j) = nu_i (S 7 0 j)
/-- a laying is half from its hour on -/
def hb_ (k a h : Nat) : Bool := decide (k = 4) && !decide (h < a)
/-- the reference's sets in turn: (set, last, ahead) -/
def am_ (S : Nat → Nat → Nat → Nat) (t n : Nat) : Nat := fo_ (fun q b => if t.testBit q = true then b else if b = 0 then q + 1 else if S 1 q 0 / 2 < S 1 (b - 1) 0 / 2 then q + 1 else b) n 0
def tg_ (S : Nat → Nat → Nat → Nat) (r : Nat × Nat × Nat) : Nat × Nat × Nat := if bu_ S (am_ S r.2.2 (S 8 0 1) - 1) = true ∧ ¬ S 1 (am_ S r.2.2 (S 8 0 1) - 1) 0 % 2 = r.2.1 then (r.1 ||| 1 <<< (am_ S r.2.2 (S 8 0 1) - 1), S 1 (am_ S r.2.2 (S 8 0 1) - 1) 0 % 2, r.2.2 ||| 1 <<< (am_ S r.2.2 (S 8 0 1) - 1)) else (r.1, r.2.1, r.2.2 ||| 1 <<< (am_ S r.2.2 (S 8 0 1) - 1))
def tm_ (S : Nat → Nat → Nat → Nat) (a n : Nat) : Nat × Nat × Nat := fo_ (fun _ r => tg_ S r) n (0, 1 - a, 0)
def bk_ (S : Nat → Nat → Nat → Nat) (k a w p : Nat) : Bool := bu_ S p && (if k = 1 then decide (S 1 p 0 % 2 = a) else if k = 5 then w.testBit p else if k = 6 then a.testBit p else true)
def bm2_ (S : Nat → Nat → Nat → Nat) (k a w : Nat) : Nat := if k = 3 then (tm_ S a (S 8 0 1)).1 else bs_ (bk_ S k a w) (S 8 0 1)
theorem nu_md {a : Nat} (ha : a < 2147483648) : nu_i a - nu_i a / 2 * 2 = nu_i (a % 2) := by
  rw [nu_divn ha (by omega), nu_muln, nu_sub (by omega)]
  congr 1; show a - a / 2 * 2 = a % 2; omega
theorem nu_md2 {a : Nat} : nu_i a - nu_i (a / 2) * 2 = nu_i (a % 2) := by
  rw [nu_muln, nu_sub (by omega)]
  congr 1; show a - a / 2 * 2 = a % 2; omega
theorem nu_sn {a b : Nat} (h : a ≤ b) : -(nu_i a - nu_i b) = nu_i (b - a) := by
  rw [nu_neg a b, nu_sub h]; grind
section MO
variable {X : px_X} {S : Nat → Nat → Nat → Nat} {D : pu_D}
theorem rm_n (h : re_M S D) : D.1 85 0 = nu_i (S 8 0 0) ∧ D.1 85 1 = nu_i (S 8 0 1) ∧ D.1 85 2 = nu_i (S 8 0 2) ∧ D.1 85 3 = nu_i (S 8 0 3) ∧ D.1 85 4 = nu_i (S 8 0 4) ∧ D.1 85 5 = nu_i (S 8 0 5) ∧ D.1 85 6 = nu_i (S 8 0 6) :=
  ⟨(h.1 0 (by decide)).1, (h.1 1 (by decide)).1, (h.1 2 (by decide)).1, (h.1 3 (by decide)).1, (h.1 4 (by decide)).1, (h.1 5 (by decide)).1, (h.1 6 (by decide)).1⟩
theorem rm_m (h : re_M S D) : D.1 85 7 = nu_i (S 7 0 0) ∧ D.1 85 8 = nu_i (S 7 0 1) ∧ D.1 85 9 = nu_i (S 7 0 2) ∧ D.1 85 10 = nu_i (S 7 0 3) :=
  ⟨h.2 0 (by decide), h.2 1 (by decide), h.2 2 (by decide), h.2 3 (by decide)⟩
theorem mc_87 (h : re_M S D) {i : Nat} (hi : i < S 8 0 0) : D.1 87 i = nu_i (S 0 i 0) := (h.1 0 (by decide)).2 0 (by decide) i hi
theorem mc_88 (h : re_M S D) {i : Nat} (hi : i < S 8 0 0) : D.1 88 i = nu_i (S 0 i 1) := (h.1 0 (by decide)).2 1 (by decide) i hi
theorem mc_89 (h : re_M S D) {i : Nat} (hi : i < S 8 0 0) : D.1 89 i = nu_i (S 0 i 2) := (h.1 0 (by decide)).2 2 (by decide) i hi
theorem mc_90 (h : re_M S D) {i : Nat} (hi : i < S 8 0 0) : D.1 90 i = nu_i (S 0 i 3) := (h.1 0 (by decide)).2 3 (by decide) i hi
theorem mc_91 (h : re_M S D) {i : Nat} (hi : i < S 8 0 1) : D.1 91 i = nu_i (S 1 i 0) := (h.1 1 (by decide)).2 0 (by decide) i hi
theorem mc_92 (h : re_M S D) {i : Nat} (hi : i < S 8 0 1) : D.1 92 i = nu_i (S 1 i 1) := (h.1 1 (by decide)).2 1 (by decide) i hi
theorem mc_93 (h : re_M S D) {i : Nat} (hi : i < S 8 0 1) : D.1 93 i = nu_l (S 1 i 2) := (h.1 1 (by decide)).2 2 (by decide) i hi
theorem mc_94 (h : re_M S D) {i : Nat} (hi : i < S 8 0 1) : D.1 94 i = nu_i (S 1 i 3) := (h.1 1 (by decide)).2 3 (by decide) i hi
theorem mc_95 (h : re_M S D) {i : Nat} (hi : i < S 8 0 2) : D.1 95 i = nu_i (S 2 i 0) := (h.1 2 (by decide)).2 0 (by decide) i hi
theorem mc_96 (h : re_M S D) {i : Nat} (hi : i < S 8 0 3) : D.1 96 i = nu_i (S 3 i 0) := (h.1 3 (by decide)).2 0 (by decide) i hi
theorem mc_97 (h : re_M S D) {i : Nat} (hi : i < S 8 0 4) : D.1 97 i = nu_i (S 4 i 0) := (h.1 4 (by decide)).2 0 (by decide) i hi
theorem mc_98 (h : re_M S D) {i : Nat} (hi : i < S 8 0 4) : D.1 98 i = nu_i (S 4 i 1) := (h.1 4 (by decide)).2 1 (by decide) i hi
theorem mc_99 (h : re_M S D) {i : Nat} (hi : i < S 8 0 5) : D.1 99 i = nu_i (S 5 i 0) := (h.1 5 (by decide)).2 0 (by decide) i hi
theorem mc_100 (h : re_M S D) {i : Nat} (hi : i < S 8 0 5) : D.1 100 i = nu_i (S 5 i 1) := (h.1 5 (by decide)).2 1 (by decide) i hi
theorem mc_101 (h : re_M S D) {i : Nat} (hi : i < S 8 0 5) : D.1 101 i = nu_i (S 5 i 2) := (h.1 5 (by decide)).2 2 (by decide) i hi
theorem mc_102 (h : re_M S D) {i : Nat} (hi : i < S 8 0 6) : D.1 102 i = nu_i (S 6 i 0) := (h.1 6 (by decide)).2 0 (by decide) i hi
/-- what a query of the reference may write: nothing that the street is made of -/
def zm_ (Z : Nat → Nat → Prop) : Prop := ∀ q j, Z q j → ¬ (87 ≤ q ∧ q ≤ 107) ∧ ¬ (q = 85 ∧ j ≤ 36)
theorem rm_ag {Z : Nat → Nat → Prop} {D' : pu_D} (hM : re_M S D) (h : ag_ Z D D') (hZ : zm_ Z) : re_M S D' := by
  refine ⟨fun t ht => ⟨?_, fun w hw i hi => ?_⟩, fun j hj => ?_⟩
  · rw [h.1 _ _ (fun z => (hZ _ _ z).2 ⟨rfl, by omega⟩)]; exact (hM.1 t ht).1
  · rw [h.1 _ _ (fun z => (hZ _ _ z).1 ?_)]
    · exact (hM.1 t ht).2 w hw i hi
    · rcases (show t = 0 ∨ t = 1 ∨ t = 2 ∨ t = 3 ∨ t = 4 ∨ t = 5 ∨ t = 6 by omega) with rfl | rfl | rfl | rfl | rfl | rfl | rfl <;> simp [cm_, wd_] at hw ⊢ <;> omega
  · rw [h.1 _ _ (fun z => (hZ _ _ z).2 ⟨rfl, by omega⟩)]; exact hM.2 j hj
theorem mp_198 (hM : re_M S D) (hW : wf_ S) {P : Int32 → pu_D → Prop} : pu_I X 198 [.ref 85] D P = P (nu_i (lb_ S)) D := by
  have hn := wf_n hW
  obtain ⟨-, c5, -⟩ := rm_n hM
  refine pu_I_of (pu_e198 ?_) P
  refine lo_ix (fun a x => pu_h198_4 X (nu_i a) x D _) (S 8 0 1) (bs_ (fun p => !decide (S 1 p 2 = 0))) (fun i hi h => ?_) ?_
  · have h5 := bs_512 (fun p => !decide (S 1 p 2 = 0)) (n := i) (by omega)
    have hv := wf_p hW hi
    refine pu_u198_4 ?_
    simp (disch := first | assumption | omega) only [c5, nu_lt, hi, if_true, nu_in, nu_ix, mc_93 hM, nu_lm, nu_orS, nu_addn]
    refine ⟨by omega, ?_⟩
    by_cases hb : S 1 i 2 = 0
    · simpa [bs_, hb] using h
    · simpa [bs_, hb] using h
  · refine pu_u198_4 ?_
    simp (disch := omega) only [c5, nu_lt, Nat.lt_irrefl, if_false]
    exact ⟨by trivial, by trivial⟩
theorem mp_199 {m : Nat} {P : Int32 → pu_D → Prop} (hm : m < 12) : pu_I X 199 [.ref 85, .int (nu_i m)] D P = P (nu_i (lv_ m)) D := by
  refine pu_I_of (pu_e199 ?_) P
  simp (disch := omega) only [nu_eqn, nu_ltn, nu_nlt]
  rcases (show m = 0 ∨ m = 1 ∨ m = 2 ∨ m = 3 ∨ m = 4 ∨ m = 5 ∨ m = 6 ∨ m = 7 ∨ m = 8 ∨ m = 9 ∨ m = 10 ∨ m = 11 by omega) with rfl | rfl | rfl | rfl | rfl | rfl | rfl | rfl | rfl | rfl | rfl | rfl <;> exact ⟨by trivial, by trivial⟩
theorem bw_eq {y a b : Nat} : bw_ y a b = decide (y % 2 = a % 2 ∧ ((a / 2 < y / 2 ∧ y / 2 < b / 2) ∨ (b / 2 < y / 2 ∧ y / 2 < a / 2))) := by
  unfold bw_
  rw [← Bool.decide_and, ← Bool.decide_and]
  apply decide_eq_decide.mpr
  omega
theorem mp_200 {y a b : Nat} {P : Int32 → pu_D → Prop} (hy : y < 120) (ha : a < 120) (hb : b < 120) : pu_I X 200 [.ref 85, .int (nu_i y), .int (nu_i a), .int (nu_i b)] D P = P (nu_b (bw_ y a b = true)) D := by
  refine pu_I_of (pu_e200 ?_) P
  simp (disch := omega) only [nu_md2, nu_eq, nu_divn, nu_lt]
  rw [bw_eq]
  simp only [decide_eq_true_eq]
  by_cases h1 : y % 2 = a % 2
  · rw [if_pos h1]
    by_cases h2 : a / 2 < y / 2 ∧ y / 2 < b / 2
    · rw [if_pos h2.1, if_pos h2.2, nu_bT ⟨h1, Or.inl h2⟩]; exact ⟨by trivial, by trivial⟩
    · by_cases h3 : b / 2 < y / 2 ∧ y / 2 < a / 2
      · rw [nu_bT ⟨h1, Or.inr h3⟩]
        rw [if_neg (show ¬ a / 2 < y / 2 by omega), if_pos h3.1, if_pos h3.2]; exact ⟨by trivial, by trivial⟩
      · rw [nu_bF (fun z => z.2.elim h2 h3)]
        by_cases h4 : a / 2 < y / 2
        · rw [if_pos h4, if_neg (show ¬ y / 2 < b / 2 from fun z => h2 ⟨h4, z⟩)]
          by_cases h5 : b / 2 < y / 2
          · rw [if_pos h5, if_neg (show ¬ y / 2 < a / 2 from fun z => h3 ⟨h5, z⟩)]; exact ⟨by trivial, by trivial⟩
          · rw [if_neg h5]; exact ⟨by trivial, by trivial⟩
        · rw [if_neg h4]
          by_cases h5 : b / 2 < y / 2
          · rw [if_pos h5, if_neg (show ¬ y / 2 < a / 2 from fun z => h3 ⟨h5, z⟩)]; exact ⟨by trivial, by trivial⟩
          · rw [if_neg h5]; exact ⟨by trivial, by trivial⟩
  · rw [if_neg h1, nu_bF (fun z => h1 z.1)]; exact ⟨by trivial, by trivial⟩
theorem mp_201L (hM : re_M S D) (hW : wf_ S) {p q m x : Nat} {P : Int32 → pu_D → Prop} (hp : p < S 8 0 1) (hq : q < 120) (hm : m < 12) (hx : x ≤ 99000) (h : P (nu_i (if 0 < cb_ S 3 (S 1 p 0) q then 0 else it_ (sd_ m) (cb_ S 2 (S 1 p 0) q) x)) D) : pu_h201_81 X (nu_i p) (nu_i q) (nu_i m) (nu_i x) 0 D P := by
  have hn := wf_n hW
  have hv := wf_p hW hp
  obtain ⟨-, -, c2, c3, -⟩ := rm_n hM
  refine lo_ix (fun a y => pu_h201_81 X (nu_i p) (nu_i q) (nu_i m) (nu_i a) y D P) (S 8 0 2) (fun i => it_ (sd_ m) (ct_ (fun i => bw_ (S 2 i 0) (S 1 p 0) q) i) x) (fun i hi h => ?_) ?_
  · have hv2 := wf_t hW 2 (by decide) (by decide) hi
    have h5 := it_le (sd_le m) (ct_ (fun i => bw_ (S 2 i 0) (S 1 p 0) q) i) x
    have h6 : it_ (sd_ m) (ct_ (fun i => bw_ (S 2 i 0) (S 1 p 0) q) i) x * (4 - lv_ m) ≤ it_ (sd_ m) (ct_ (fun i => bw_ (S 2 i 0) (S 1 p 0) q) i) x * 4 := Nat.mul_le_mul_left _ (by omega)
    have h7 := lv_le m hm
    refine pu_u201_81 ?_
    simp (disch := omega) only [c2, nu_lt, hi, if_true, nu_in, nu_ix, mc_95 hM, mc_91 hM, mp_200 hv2 hv.1 hq, nu_b0, mp_199 hm, nu_addn]
    refine ⟨by omega, by omega, ?_⟩
    by_cases hb : bw_ (S 2 i 0) (S 1 p 0) q = true
    · rw [if_neg (by simpa using hb), show (4 : Int32) - nu_i (lv_ m) = nu_i (4 - lv_ m) from nu_sub (a := 4) (by omega)]
      simp (disch := omega) only [nu_mul, nu_divn]
      simp only [ct_, hb, if_true, it_] at h
      exact h
    · rw [if_pos hb]
      simp only [ct_, hb, if_false, Bool.false_eq_true] at h
      exact h
  · refine pu_u201_81 ?_
    simp (disch := omega) only [c2, nu_lt, Nat.lt_irrefl, if_false]
    have h5 := it_le (sd_le m) (cb_ S 2 (S 1 p 0) q) x
    change pu_h201_135 X (nu_i p) (nu_i q) (nu_i (it_ (sd_ m) (cb_ S 2 (S 1 p 0) q) x)) 0 D P
    generalize it_ (sd_ m) (cb_ S 2 (S 1 p 0) q) x = y at h h5 ⊢
    refine lo_ix (fun a z => pu_h201_135 X (nu_i p) (nu_i q) (nu_i a) z D P) (S 8 0 3) (fun i => if 0 < ct_ (fun i => bw_ (S 3 i 0) (S 1 p 0) q) i then 0 else y) (fun i hi h => ?_) ?_
    · have hv2 := wf_t hW 3 (by decide) (by decide) hi
      refine pu_u201_135 ?_
      simp (disch := omega) only [c3, nu_lt, hi, if_true, nu_in, nu_ix, mc_96 hM, mc_91 hM, mp_200 hv2 hv.1 hq, nu_b0, nu_addn]
      refine ⟨by omega, by omega, ?_⟩
      by_cases hb : bw_ (S 3 i 0) (S 1 p 0) q = true
      · rw [if_neg (by simpa using hb)]
        simp only [ct_, hb, if_true, Nat.succ_pos, Nat.zero_lt_succ] at h
        exact h
      · rw [if_pos hb]
        simp only [ct_, hb, if_false, Bool.false_eq_true] at h
        exact h
    · refine pu_u201_135 ?_
      simp (disch := omega) only [c3, nu_lt, Nat.lt_irrefl, if_false]
      exact h
theorem mp_201 (hM : re_M S D) (hW : wf_ S) {p s q m : Nat} {P : Int32 → pu_D → Prop} (hp : p < S 8 0 1) (hs : s < S 8 0 0) (hq : q < 120) (hm : m < 12) : pu_I X 201 [.ref 85, .int (nu_i s), .int (nu_i p), .int (nu_i q), .int (nu_i m)] D P = P (nu_i (gv_ S p s q m)) D := by
  have hn := wf_n hW
  have hv := wf_p hW hp
  have hvs := wf_s hW hs
  have hMM := wf_m hW
  obtain ⟨-, -, m2, -⟩ := rm_m hM
  have q2 := sq_le hW hv.1 hq
  have d2 : di_ (S 1 p 0 / 2) (q / 2) * di_ (S 1 p 0 / 2) (q / 2) ≤ 59 * 59 := Nat.mul_le_mul q2.2 q2.2
  have e2 : S 7 0 2 * S 7 0 2 ≤ 12 * 12 := Nat.mul_le_mul hMM.2.2.1.2 hMM.2.2.1.2
  have h1 : 1 * 1 ≤ S 0 s 0 * S 0 s 0 := Nat.mul_le_mul hvs.1.1 hvs.1.1
  have h2 : S 0 s 0 * S 0 s 0 ≤ 12 * 12 := Nat.mul_le_mul hvs.1.2 hvs.1.2
  refine pu_I_of (pu_e201 ?_) P
  simp (disch := omega) only [nu_in, nu_ix, mc_91 hM, mc_87 hM, mc_88 hM, nu_md2, nu_eq, nu_divn, nu_sq, nu_mul, nu_add, nu_eqn, nu_nmul, nu_div, m2]
  refine ⟨by omega, by omega, by omega, by omega, ?_⟩
  by_cases h3 : S 1 p 0 % 2 = q % 2
  · rw [if_pos h3]
    refine ⟨by omega, by omega, ?_⟩
    have e : 1000 * S 0 s 1 / (S 0 s 0 * S 0 s 0 + di_ (S 1 p 0 / 2) (q / 2) * di_ (S 1 p 0 / 2) (q / 2)) = ba_ S s (sq_ S (S 1 p 0) q) := by unfold ba_ sq_; rw [if_pos h3]
    rw [e]
    exact mp_201L hM hW hp hq hm (ba_le hW hs) ⟨by unfold gv_; rfl, rfl⟩
  · rw [if_neg h3]
    refine ⟨by omega, by omega, ?_⟩
    have e : 1000 * S 0 s 1 / (S 0 s 0 * S 0 s 0 + di_ (S 1 p 0 / 2) (q / 2) * di_ (S 1 p 0 / 2) (q / 2) + S 7 0 2 * S 7 0 2) = ba_ S s (sq_ S (S 1 p 0) q) := by unfold ba_ sq_; rw [if_neg h3, Nat.add_assoc]
    rw [e]
    exact mp_201L hM hW hp hq hm (ba_le hW hs) ⟨by unfold gv_; rfl, rfl⟩
theorem mp_204 (hM : re_M S D) (hW : wf_ S) {i q : Nat} {P : Int32 → pu_D → Prop} (hi : i < S 8 0 5) (hq : q < 120) : pu_I X 204 [.ref 85, .int (nu_i i), .int (nu_i q)] D P = P (nu_i (sa_ S i q)) D := by
  have hn := wf_n hW
  have hv := wf_h hW hi
  have ht := wf_t hW 5 (by decide) (by decide) hi
  refine pu_I_of (pu_e204 ?_) P
  simp (disch := omega) only [nu_in, nu_ix, mc_99 hM, mc_100 hM, nu_md2, nu_eq, nu_divn, (nu_sl (a := S 5 i 0 / 2) (b := q / 2) (by omega) (by omega)).1]
  refine ⟨by omega, ?_⟩
  unfold sa_
  have key : ∀ d, d < 100 → (if S 5 i 0 % 2 = q % 2 then (if 2 < nu_i d then (0 = nu_i (if S 5 i 0 % 2 = q % 2 then (if d = 0 then S 5 i 1 else if d = 1 then S 5 i 1 / 2 else if d = 2 then S 5 i 1 / 4 else 0) else 0) ∧ D = D) else (if nu_i d = 0 then ((i < 8) ∧ nu_i (S 5 i 1) = nu_i (if S 5 i 0 % 2 = q % 2 then (if d = 0 then S 5 i 1 else if d = 1 then S 5 i 1 / 2 else if d = 2 then S 5 i 1 / 4 else 0) else 0) ∧ D = D) else (if nu_i d = 1 then ((i < 8) ∧ nu_i (S 5 i 1 / 2) = nu_i (if S 5 i 0 % 2 = q % 2 then (if d = 0 then S 5 i 1 else if d = 1 then S 5 i 1 / 2 else if d = 2 then S 5 i 1 / 4 else 0) else 0) ∧ D = D) else ((i < 8) ∧ nu_i (S 5 i 1 / 4) = nu_i (if S 5 i 0 % 2 = q % 2 then (if d = 0 then S 5 i 1 else if d = 1 then S 5 i 1 / 2 else if d = 2 then S 5 i 1 / 4 else 0) else 0) ∧ D = D)))) else (0 = nu_i (if S 5 i 0 % 2 = q % 2 then (if d = 0 then S 5 i 1 else if d = 1 then S 5 i 1 / 2 else if d = 2 then S 5 i 1 / 4 else 0) else 0) ∧ D = D)) := by
    intro d hd
    simp (disch := omega) only [nu_nlt, nu_eqn]
    by_cases h2 : S 5 i 0 % 2 = q % 2
    · simp only [h2, if_true]
      by_cases h3 : d = 0
      · subst h3; rw [if_neg (by omega), if_pos rfl]; exact ⟨by omega, rfl, by trivial⟩
      · by_cases h4 : d = 1
        · subst h4; rw [if_neg (by omega), if_neg (by omega), if_pos rfl]; exact ⟨by omega, rfl, by trivial⟩
        · by_cases h5 : d = 2
          · subst h5; rw [if_neg (by omega), if_neg (by omega), if_neg (by omega)]; exact ⟨by omega, rfl, by trivial⟩
          · rw [if_pos (by omega), if_neg h3, if_neg h4, if_neg h5]; exact ⟨rfl, by trivial⟩
    · simp only [h2, if_false]; exact ⟨rfl, by trivial⟩
  by_cases hd : S 5 i 0 / 2 < q / 2
  · rw [if_pos hd]
    refine ⟨by omega, ?_⟩
    have e : di_ (S 5 i 0 / 2) (q / 2) = q / 2 - S 5 i 0 / 2 := by unfold di_; omega
    rw [nu_sn (Nat.le_of_lt hd), e]
    simpa using key (q / 2 - S 5 i 0 / 2) (by omega)
  · rw [if_neg hd]
    refine ⟨by omega, ?_⟩
    have e : di_ (S 5 i 0 / 2) (q / 2) = S 5 i 0 / 2 - q / 2 := by unfold di_; omega
    rw [nu_sub (by omega), e]
    simpa using key (S 5 i 0 / 2 - q / 2) (by omega)
theorem mp_203 (hM : re_M S D) (hW : wf_ S) {q hh : Nat} {P : Int32 → pu_D → Prop} (hq : q < 120) (hm : hh < 12) : pu_I X 203 [.ref 85, .int (nu_i q), .int (nu_i hh)] D P = P (nu_i (sh_ S q hh)) D := by
  have hn := wf_n hW
  obtain ⟨-, -, -, -, -, c5, -⟩ := rm_n hM
  refine pu_I_of (pu_e203 ?_) P
  refine lo_ix (fun a x => pu_h203_5 X (nu_i q) (nu_i hh) (nu_i a) x D _) (S 8 0 5) (su_ (fun i => so_ S i q hh)) (fun i hi h => ?_) ?_
  · have hv := wf_h hW hi
    refine pu_u203_5 ?_
    simp (disch := omega) only [c5, nu_lt, hi, if_true, nu_in, nu_ix, mc_101 hM, mp_204 hM hW hi hq, nu_add, nu_addn]
    refine ⟨by omega, ?_⟩
    by_cases h1 : hh < S 5 i 2
    · rw [if_pos h1]; simp only [su_, so_, h1, if_true] at h; exact h
    · rw [if_neg h1]; simp only [su_, so_, h1, if_false, Nat.add_zero] at h; exact h
  · refine pu_u203_5 ?_
    simp (disch := omega) only [c5, nu_lt, Nat.lt_irrefl, if_false]
    exact ⟨by trivial, by trivial⟩
theorem mp_205 (hM : re_M S D) (hW : wf_ S) {p q m : Nat} {h : Bool} {P : Int32 → pu_D → Prop} (hp : p < S 8 0 1) (hl : ¬ S 1 p 2 = 0) (hq : q < 120) (hm : m < 12) : pu_I X 205 [.ref 85, .int (nu_i p), .int (nu_i q), .int (nu_i m), .int (nu_b (h = true))] D P = P (nu_i (ol_ S h p q m)) D := by
  have hv := wf_p hW hp
  have hn := wf_n hW
  have g := gv_le hW (p := p) (s := S 1 p 2 - 1) (q := q) (m := m) (by omega)
  refine pu_I_of (pu_e205 ?_) P
  simp (disch := omega) only [nu_in, nu_ix, mc_93 hM, nu_lp hl, mp_201 hM hW hp (s := S 1 p 2 - 1) (by omega) hq hm, nu_b0, nu_divn]
  refine ⟨by omega, ?_⟩
  unfold ol_
  cases h
  · rw [if_pos (by decide), if_neg (by decide)]; exact ⟨by trivial, by trivial⟩
  · rw [if_neg (by decide), if_pos rfl]; exact ⟨by trivial, by trivial⟩
theorem mp_210 (hM : re_M S D) (hW : wf_ S) {q : Nat} {P : Int32 → pu_D → Prop} (hq : q < 120) : pu_I X 210 [.ref 85, .int (nu_i q)] D P = P (nu_b (ip_ S q = true)) D := by
  have hn := wf_n hW
  obtain ⟨-, -, -, -, -, -, c6⟩ := rm_n hM
  refine pu_I_of (pu_e210 ?_) P
  refine lo_fi (fun x => pu_h210_2 X (nu_i q) x D _) (S 8 0 6) (fun i => decide (S 6 i 0 = q)) (fun i hi hb h => ?_) ?_
  · have hv := wf_t hW 6 (by decide) (by decide) hi
    simp only [decide_eq_false_iff_not] at hb
    refine pu_u210_2 ?_
    simp (disch := omega) only [c6, nu_lt, hi, if_true, nu_in, nu_ix, mc_102 hM, nu_eq, hb, if_false, nu_addn]
    exact ⟨by omega, h⟩
  · have hl := fi_le (fun i => decide (S 6 i 0 = q)) (S 8 0 6)
    have ha := (fi_at (fun i => decide (S 6 i 0 = q)) (S 8 0 6)).1
    refine pu_u210_2 ?_
    simp (disch := omega) only [c6, nu_lt]
    by_cases h : fi_ (fun i => decide (S 6 i 0 = q)) (S 8 0 6) < S 8 0 6
    · have hv := wf_t hW 6 (by decide) (by decide) h
      have h2 := ha h
      simp only [decide_eq_true_eq] at h2
      simp (disch := omega) only [h, if_true, nu_in, nu_ix, mc_102 hM h, h2]
      exact ⟨by omega, by unfold ip_; rw [decide_eq_true h]; rfl, by trivial⟩
    · rw [if_neg h]
      exact ⟨by unfold ip_; rw [decide_eq_false h]; rfl, by trivial⟩
end MO
