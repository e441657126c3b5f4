/-! THE CLASS'S STREET, further. -/
section SP
variable {X : px_X} {S : Nat → Nat → Nat → Nat} {D : pu_D}
/-- a set whose places all have lamps -/
def sl_ (S : Nat → Nat → Nat → Nat) (set : Nat) : Prop := set < 512 ∧ ∀ p, p < S 8 0 1 → set.testBit p = true → ¬ S 1 p 2 = 0
theorem sl_and {set c : Nat} (h : sl_ S set) : sl_ S (set &&& c) := ⟨Nat.lt_of_le_of_lt Nat.and_le_left h.1, fun p hp hb => h.2 p hp (by rw [Nat.testBit_and, Bool.and_eq_true] at hb; exact hb.1)⟩
theorem sl_bb (hW : wf_ S) : sl_ S (bb_ S) := ⟨bb_lt hW, fun p hp hb => by
  unfold bb_ at hb
  rw [bs_bit] at hb
  simp only [bu_, Bool.and_eq_true, Bool.not_eq_true', decide_eq_false_iff_not, decide_eq_true_eq] at hb
  exact hb.2.1⟩
theorem sp_64 (hC : re_C 1 S D) (hW : wf_ S) {set q m : Nat} {h : Bool} {P : Int32 → pu_D → Prop} (hs : sl_ S set) (hq : q < 120) (hm : m < 12) : pu_I X 64 [.ref 1, .int (nu_i set), .int (nu_b (h = true)), .int (nu_i q), .int (nu_i m)] D P = P (nu_i (li_ S set h q m)) D := by
  have hn := wf_n hW
  obtain ⟨-, c5, -⟩ := re_n hC
  have h1 := hs.1
  refine pu_I_of (pu_e64 ?_) P
  refine lo_ix (fun a x => pu_h64_6 X (nu_i set) (nu_b (h = true)) (nu_i q) (nu_i m) (nu_i a) x D _) (S 8 0 1) (su_ (fun p => if set.testBit p = true then ol_ S h p q m else 0)) (fun i hi hh => ?_) ?_
  · refine pu_u64_6 ?_
    simp (disch := omega) only [c5, nu_lt, hi, if_true, sp_142, nu_b0, nu_addn]
    by_cases hb : set.testBit i = true
    · rw [if_neg (by simpa using hb), sp_63 hC hW hi (hs.2 i hi hb) hq hm]
      simp only [su_, hb, if_true] at hh
      rw [nu_add]; exact hh
    · rw [if_pos hb]
      simp only [su_, hb, if_false, Nat.add_zero, Bool.false_eq_true] at hh
      exact hh
  · refine pu_u64_6 ?_
    simp (disch := omega) only [c5, nu_lt, Nat.lt_irrefl, if_false]
    exact ⟨by trivial, by trivial⟩
theorem sp_65 (hC : re_C 1 S D) (hW : wf_ S) {set q m : Nat} {h : Bool} {P : Int32 → pu_D → Prop} (hs : sl_ S set) (hq : q < 120) (hm : m < 12) : pu_I X 65 [.ref 1, .int (nu_i set), .int (nu_b (h = true)), .int (nu_i q), .int (nu_i m)] D P = P (nu_i (fa_ S set h q m)) D := by
  have hn := wf_n hW
  obtain ⟨-, c5, -⟩ := re_n hC
  have h1 := hs.1
  refine pu_I_of (pu_e65 ?_) P
  refine lo_ix (fun a x => pu_h65_6 X (nu_i set) (nu_b (h = true)) (nu_i q) (nu_i m) (nu_i a) x D _) (S 8 0 1) (su_ (fun p => if q / 2 < S 1 p 0 / 2 then (if set.testBit p = true then ol_ S h p q m / 2 else 0) else 0)) (fun i hi hh => ?_) ?_
  · have hv := wf_p hW hi
    refine pu_u65_6 ?_
    simp (disch := omega) only [c5, nu_lt, hi, if_true, sp_n5_0 hC hW hi, sp_143, sp_142, nu_b0, nu_addn]
    by_cases h2 : q / 2 < S 1 i 0 / 2
    · rw [if_pos h2]
      by_cases hb : set.testBit i = true
      · have g := ol_le hW (h := h) (q := q) (m := m) hi (hs.2 i hi hb)
        rw [if_neg (by simpa using hb), sp_63 hC hW hi (hs.2 i hi hb) hq hm]
        simp only [su_, hb, h2, if_true] at hh
        rw [nu_divn (by omega) (by omega), nu_add]; exact hh
      · rw [if_pos hb]
        simp only [su_, hb, h2, if_true, if_false, Nat.add_zero, Bool.false_eq_true] at hh
        exact hh
    · rw [if_neg h2]
      simp only [su_, h2, if_false, Nat.add_zero] at hh
      exact hh
  · refine pu_u65_6 ?_
    simp (disch := omega) only [c5, nu_lt, Nat.lt_irrefl, if_false]
    exact ⟨by trivial, by trivial⟩
theorem br_le (hW : wf_ S) {set q m n : Nat} {h : Bool} (hn : n ≤ S 8 0 1) (hs : sl_ S set) : (br_ S set h q m n).2 ≤ 99000 ∧ (br_ S set h q m n).1 ≤ n := by
  induction n with
  | zero => exact ⟨Nat.zero_le _, Nat.le_refl _⟩
  | succ n ih =>
    have ih := ih (by omega)
    show (if set.testBit n = true ∧ (br_ S set h q m n).2 < ol_ S h n q m then (n + 1, ol_ S h n q m) else br_ S set h q m n).2 ≤ 99000 ∧ (if set.testBit n = true ∧ (br_ S set h q m n).2 < ol_ S h n q m then (n + 1, ol_ S h n q m) else br_ S set h q m n).1 ≤ n + 1
    by_cases hc : set.testBit n = true ∧ (br_ S set h q m n).2 < ol_ S h n q m
    · rw [if_pos hc]; exact ⟨ol_le hW (by omega) (hs.2 n (by omega) hc.1), Nat.le_refl _⟩
    · rw [if_neg hc]; exact ⟨ih.1, by omega⟩
theorem br_succ {set q m n : Nat} {h : Bool} : br_ S set h q m (n + 1) = (if set.testBit n = true ∧ (br_ S set h q m n).2 < ol_ S h n q m then (n + 1, ol_ S h n q m) else br_ S set h q m n) := rfl
theorem sp_66 (hC : re_C 1 S D) (hW : wf_ S) {set q m : Nat} {h : Bool} {P : Int32 → pu_D → Prop} (hs : sl_ S set) (hq : q < 120) (hm : m < 12) : pu_I X 66 [.ref 1, .int (nu_i set), .int (nu_b (h = true)), .int (nu_i q), .int (nu_i m)] D P = P (nu_l (br_ S set h q m (S 8 0 1)).1) D := by
  have hn := wf_n hW
  obtain ⟨-, c5, -⟩ := re_n hC
  have h1 := hs.1
  refine pu_I_of (pu_e66 ?_) P
  refine lo_ix (fun (a : Nat × Nat) x => pu_h66_9 X (nu_i set) (nu_b (h = true)) (nu_i q) (nu_i m) (nu_l a.1) (nu_i a.2) x D _) (S 8 0 1) (br_ S set h q m) (fun i hi hh => ?_) ?_
  · have hb9 := br_le hW (h := h) (q := q) (m := m) (Nat.le_of_lt hi) hs
    rw [br_succ] at hh
    refine pu_u66_9 ?_
    simp (disch := omega) only [c5, nu_lt, hi, if_true, sp_142, nu_b0, nu_addn, nu_lt0, if_false]
    by_cases hb : set.testBit i = true
    · have g := ol_le hW (h := h) (q := q) (m := m) hi (hs.2 i hi hb)
      rw [if_neg (by simpa using hb), sp_63 hC hW hi (hs.2 i hi hb) hq hm]
      simp (disch := omega) only [nu_lt]
      by_cases h3 : (br_ S set h q m i).2 < ol_ S h i q m
      · rw [if_pos h3]; rw [if_pos ⟨hb, h3⟩] at hh; exact hh
      · rw [if_neg h3]; rw [if_neg (fun z => h3 z.2)] at hh; exact hh
    · rw [if_pos hb]; rw [if_neg (fun z => hb z.1)] at hh; exact hh
  · refine pu_u66_9 ?_
    simp (disch := omega) only [c5, nu_lt, Nat.lt_irrefl, if_false]
    exact ⟨by trivial, by trivial⟩
theorem sp_67 (hC : re_C 1 S D) (hW : wf_ S) {i q hh : Nat} {P : Int32 → pu_D → Prop} (hi : i < S 8 0 5) (hq : q < 120) (hm : hh < 12) : pu_I X 67 [.ref 1, .int (nu_i i), .int (nu_i q), .int (nu_i hh)] D P = P (nu_i (so_ S i q hh)) D := by
  have hn := wf_n hW
  have hv := wf_h hW hi
  have ht := wf_t hW 5 (by decide) (by decide) hi
  refine pu_I_of (pu_e67 ?_) P
  have d9 : di_ (S 5 i 0 / 2) (q / 2) ≤ 60 := by unfold di_; omega
  simp (disch := omega) only [sp_n13_0 hC hW hi, sp_n13_1 hC hW hi, sp_n13_2 hC hW hi, nu_lt, sp_144, sp_143, nu_eq, nu_abs, nu_eqn, nu_divn]
  unfold so_ sa_
  by_cases h1 : hh < S 5 i 2
  · rw [if_pos h1, if_pos h1]
    by_cases h2 : S 5 i 0 % 2 = q % 2
    · rw [if_pos h2, if_pos h2]
      by_cases h3 : di_ (S 5 i 0 / 2) (q / 2) = 0
      · rw [if_pos h3, if_pos h3]; exact ⟨by trivial, by trivial⟩
      · rw [if_neg h3, if_neg h3]
        by_cases h4 : di_ (S 5 i 0 / 2) (q / 2) = 1
        · rw [if_pos h4, if_pos h4]; exact ⟨by trivial, by trivial⟩
        · rw [if_neg h4, if_neg h4]
          by_cases h5 : di_ (S 5 i 0 / 2) (q / 2) = 2
          · rw [if_pos h5, if_pos h5]; exact ⟨by trivial, by trivial⟩
          · rw [if_neg h5, if_neg h5]; exact ⟨by trivial, by trivial⟩
    · rw [if_neg h2, if_neg h2]; exact ⟨by trivial, by trivial⟩
  · rw [if_neg h1, if_neg h1]; exact ⟨by trivial, by trivial⟩
theorem sp_68 (hC : re_C 1 S D) (hW : wf_ S) {q hh : Nat} {P : Int32 → pu_D → Prop} (hq : q < 120) (hm : hh < 12) : pu_I X 68 [.ref 1, .int (nu_i q), .int (nu_i hh)] D P = P (nu_i (sh_ S q hh)) D := by
  have hn := wf_n hW
  obtain ⟨-, -, -, -, -, c13, -⟩ := re_n hC
  refine pu_I_of (pu_e68 ?_) P
  refine lo_ix (fun a x => pu_h68_5 X (nu_i q) (nu_i hh) (nu_i a) x D _) (S 8 0 5) (su_ (fun i => so_ S i q hh)) (fun i hi h => ?_) ?_
  · refine pu_u68_5 ?_
    simp (disch := omega) only [c13, nu_lt, hi, if_true, sp_67 hC hW hi hq hm, nu_add, nu_addn]
    exact h
  · refine pu_u68_5 ?_
    simp (disch := omega) only [c13, nu_lt, Nat.lt_irrefl, if_false]
    exact ⟨by trivial, by trivial⟩
theorem sp_69 (hC : re_C 1 S D) (hW : wf_ S) {set s : Nat} {P : Int32 → pu_D → Prop} (hset : set < 512) (hs : s < S 8 0 0) : pu_I X 69 [.ref 1, .int (nu_i set), .int (nu_i s)] D P = P (nu_i (co_ S set s)) D := by
  have hn := wf_n hW
  obtain ⟨-, c5, -⟩ := re_n hC
  refine pu_I_of (pu_e69 ?_) P
  refine lo_ix (fun a x => pu_h69_5 X (nu_i set) (nu_i s) (nu_i a) x D _) (S 8 0 1) (su_ (fun p => if set.testBit p = true then S 0 s 2 + S 1 p 1 else 0)) (fun i hi h => ?_) ?_
  · refine pu_u69_5 ?_
    simp (disch := omega) only [c5, nu_lt, hi, if_true, sp_142, nu_b0, sp_n3_2 hC hW hs, sp_n5_1 hC hW hi, nu_add, nu_addn]
    by_cases hb : set.testBit i = true
    · rw [if_neg (by simpa using hb)]
      simp only [su_, hb, if_true] at h
      exact h
    · rw [if_pos hb]
      simp only [su_, hb, if_false, Nat.add_zero, Bool.false_eq_true] at h
      exact h
  · refine pu_u69_5 ?_
    simp (disch := omega) only [c5, nu_lt, Nat.lt_irrefl, if_false]
    exact ⟨by trivial, by trivial⟩
theorem sp_50 (hC : re_C 1 S D) (hW : wf_ S) {q : Nat} {P : Int32 → pu_D → Prop} (hq : q < 120) : pu_I X 50 [.ref 1, .int (nu_i q)] D P = P (nu_b (ip_ S q = true)) D := by
  have hn := wf_n hW
  obtain ⟨-, -, -, -, -, -, c15⟩ := re_n hC
  refine pu_I_of (pu_e50 ?_) P
  refine lo_fi (fun x => pu_h50_2 X (nu_i q) x D _) (S 8 0 6) (fun i => decide (S 6 i 0 = q)) (fun i hi hb h => ?_) ?_
  · have hv := wf_t hW 6 (by decide) (by decide) hi
    simp only [decide_eq_false_iff_not] at hb
    refine pu_u50_2 ?_
    simp (disch := omega) only [c15, nu_lt, hi, if_true, sp_n15_0 hC hW hi, nu_eq, hb, if_false, nu_addn]
    exact h
  · have hl := fi_le (fun i => decide (S 6 i 0 = q)) (S 8 0 6)
    have ha := (fi_at (fun i => decide (S 6 i 0 = q)) (S 8 0 6)).1
    refine pu_u50_2 ?_
    simp (disch := omega) only [c15, nu_lt]
    by_cases h : fi_ (fun i => decide (S 6 i 0 = q)) (S 8 0 6) < S 8 0 6
    · have hv := wf_t hW 6 (by decide) (by decide) h
      have h2 := ha h
      simp only [decide_eq_true_eq] at h2
      rw [if_pos h, sp_n15_0 hC hW h, h2, if_pos rfl]
      exact ⟨by unfold ip_; rw [decide_eq_true h]; rfl, by trivial⟩
    · rw [if_neg h]
      exact ⟨by unfold ip_; rw [decide_eq_false h]; rfl, by trivial⟩
theorem sp_58 (hC : re_C 1 S D) (hW : wf_ S) {a : Nat} {P : Int32 → pu_D → Prop} (ha : a < 1000) : pu_I X 58 [.ref 1, .int (nu_i a)] D P = P (nu_i (os_ S a)) D := by
  have hn := wf_n hW
  obtain ⟨-, c5, -⟩ := re_n hC
  refine pu_I_of (pu_e58 ?_) P
  refine lo_ix (fun b x => pu_h58_4 X (nu_i a) (nu_i b) x D _) (S 8 0 1) (bs_ (fun p => decide (S 1 p 0 % 2 = a))) (fun i hi h => ?_) ?_
  · have h5 := bs_512 (fun p => decide (S 1 p 0 % 2 = a)) (n := i) (by omega)
    have hv := wf_p hW hi
    refine pu_u58_4 ?_
    simp (disch := omega) only [c5, nu_lt, hi, if_true, sp_n5_0 hC hW hi, sp_144, nu_eq, nu_orS, nu_addn]
    by_cases hb : S 1 i 0 % 2 = a
    · rw [if_pos hb]; simp only [bs_, hb, decide_true, if_true] at h; exact h
    · rw [if_neg hb]; simp only [bs_, hb, decide_false, if_false, Bool.false_eq_true] at h; exact h
  · refine pu_u58_4 ?_
    simp (disch := omega) only [c5, nu_lt, Nat.lt_irrefl, if_false]
    exact ⟨by trivial, by trivial⟩
/-- in turn: the set stays small and in all, the wanted side 0 or 1 -/
def ti_ (all : Nat) (r : Nat × Nat) : Prop := r.1 < 512 ∧ r.2 < 2 ∧ ∀ p, r.1.testBit p = true → all.testBit p = true
theorem ti_f {all y p : Nat} {r : Nat × Nat} (hp : p < 9) (h : ti_ all r) : ti_ all (tf_ S all y p r) := by
  unfold tf_
  split
  · rename_i hc
    refine ⟨?_, by have := h.2.1; show 1 - r.2 < 2; omega, fun q hq => ?_⟩
    · exact Nat.or_lt_two_pow (n := 9) h.1 (by rw [Nat.one_shiftLeft]; exact Nat.pow_lt_pow_right (by decide) hp)
    · simp only [Nat.testBit_or, Nat.one_shiftLeft, Nat.testBit_two_pow, Bool.or_eq_true, decide_eq_true_eq] at hq
      rcases hq with hq | rfl
      · exact h.2.2 q hq
      · exact hc.1
  · exact h
theorem ti_n {all y n : Nat} {r : Nat × Nat} (hn : n ≤ 9) (h : ti_ all r) : ti_ all (fo_ (tf_ S all y) n r) := fo_inv (fun _ r => ti_ all r) h fun _ hi _ h => ti_f (by omega) h
theorem ti_y (hW : wf_ S) {all n : Nat} {r : Nat × Nat} (h : ti_ all r) : ti_ all (fo_ (fun y r => fo_ (tf_ S all y) (S 8 0 1) r) n r) := fo_inv (fun _ r => ti_ all r) h fun _ _ _ h => ti_n (wf_n hW).2.1 h
theorem sl_tu (hW : wf_ S) {all a : Nat} (ha : a < 2) (h : sl_ S all) : sl_ S (tu_ S all a).1 := by
  have := ti_y hW (all := all) (n := 60) (r := (0, a)) ⟨by show 0 < 512; omega, ha, fun p hp => by simp at hp⟩
  exact ⟨this.1, fun p hp hb => h.2 p hp (this.2.2 p hb)⟩
theorem sp_59 (hC : re_C 1 S D) (hW : wf_ S) {all a : Nat} {P : Int32 → pu_D → Prop} (hall : all < 512) (ha : a < 2) : pu_I X 59 [.ref 1, .int (nu_i all), .int (nu_i a)] D P = P (nu_i (tu_ S all a).1) D := by
  have hn := wf_n hW
  obtain ⟨-, c5, -⟩ := re_n hC
  refine pu_I_of (pu_e59 ?_) P
  have h0 : ti_ all (0, a) := ⟨by show 0 < 512; omega, ha, fun p hp => by simp at hp⟩
  refine lo_ix (fun (r : Nat × Nat) x => pu_h59_8 X (nu_i all) (nu_i r.1) (nu_i r.2) x D _) 60 (fun y => fo_ (fun y r => fo_ (tf_ S all y) (S 8 0 1) r) y (0, a)) (fun y hy hh => ?_) ?_
  · have hi0 := ti_y hW (n := y) h0
    refine pu_u59_8 ?_
    simp (disch := omega) only [nu_ltn, hy, if_true]
    change pu_h59_8 X (nu_i all) (nu_i (fo_ (tf_ S all y) (S 8 0 1) (fo_ (fun y r => fo_ (tf_ S all y) (S 8 0 1) r) y (0, a))).1) (nu_i (fo_ (tf_ S all y) (S 8 0 1) (fo_ (fun y r => fo_ (tf_ S all y) (S 8 0 1) r) y (0, a))).2) (nu_i (y + 1)) D _ at hh
    generalize fo_ (fun y r => fo_ (tf_ S all y) (S 8 0 1) r) y (0, a) = r0 at hh hi0 ⊢
    refine lo_ix (fun (r : Nat × Nat) x => pu_h59_18 X (nu_i all) (nu_i r.1) (nu_i r.2) (nu_i y) x D _) (S 8 0 1) (fun p => fo_ (tf_ S all y) p r0) (fun i hi h => ?_) ?_
    · have hv := wf_p hW hi
      have hti := ti_n (S := S) (y := y) (n := i) (by omega) hi0
      change pu_h59_18 X (nu_i all) (nu_i (tf_ S all y i (fo_ (tf_ S all y) i r0)).1) (nu_i (tf_ S all y i (fo_ (tf_ S all y) i r0)).2) (nu_i y) (nu_i (i + 1)) D _ at h
      generalize fo_ (tf_ S all y) i r0 = r at h hti ⊢
      obtain ⟨t1, t2, -⟩ := hti
      refine pu_u59_18 ?_
      simp (disch := omega) only [c5, nu_lt, hi, if_true, sp_n5_0 hC hW hi, sp_142, nu_b0, sp_143, sp_144, nu_eq, nu_orS, nu_addn]
      unfold tf_ at h
      by_cases b1 : all.testBit i = true
      · rw [if_neg (by simpa using b1)]
        by_cases b2 : S 1 i 0 / 2 = y
        · rw [if_pos b2]
          by_cases b3 : S 1 i 0 % 2 = r.2
          · rw [if_pos b3]
            rw [if_pos ⟨b1, b2, b3⟩] at h
            rw [show (1 : Int32) - nu_i r.2 = nu_i (1 - r.2) from nu_sub (a := 1) (by omega)]
            exact h
          · rw [if_neg b3]; rw [if_neg (fun z => b3 z.2.2)] at h; exact h
        · rw [if_neg b2]; rw [if_neg (fun z => b2 z.2.1)] at h; exact h
      · rw [if_pos b1]; rw [if_neg (fun z => b1 z.1)] at h; exact h
    · refine pu_u59_18 ?_
      simp (disch := omega) only [c5, nu_lt, Nat.lt_irrefl, if_false, nu_addn]
      exact hh
  · refine pu_u59_8 ?_
    simp (disch := omega) only [nu_ltn, Nat.lt_irrefl, if_false]
    exact ⟨by trivial, by trivial⟩
/-- a laying's kind, its number, the lamps that were there, in the cell q -/
def ly_ (D : pu_D) (q k a w : Nat) : Prop := D.1 q 1 = nu_i k ∧ D.1 q 3 = nu_i a ∧ D.1 q 4 = nu_i w ∧ k < 7 ∧ a < 512 ∧ w < 512 ∧ ((k = 1 ∨ k = 3) → a < 2)
theorem sp_57 (hC : re_C 1 S D) (hW : wf_ S) {q k a w : Nat} {P : Int32 → pu_D → Prop} (hq : pu_cl q = 3) (hl : ly_ D q k a w) : pu_I X 57 [.ref 1, .ref q] D P = P (nu_i (bn_ S k a w)) D := by
  have hb := bb_lt hW
  obtain ⟨l1, l3, l4, hk, ha, hw, ha2⟩ := hl
  refine pu_I_of (pu_e57 hq ?_) P
  rw [sp_56 hC hW, l1, l3, l4]
  simp (disch := omega) only [nu_eqn]
  unfold bn_
  by_cases h1 : k = 1
  · rw [if_pos h1, if_pos h1, sp_58 hC hW (by omega), nu_and]; exact ⟨by trivial, by trivial⟩
  · rw [if_neg h1, if_neg h1]
    by_cases h2 : k = 3
    · rw [if_pos h2, if_pos h2, sp_59 hC hW hb (ha2 (Or.inr h2))]; exact ⟨by trivial, by trivial⟩
    · rw [if_neg h2, if_neg h2]
      by_cases h3 : k = 5
      · rw [if_pos h3, if_pos h3, nu_and]; exact ⟨by trivial, by trivial⟩
      · rw [if_neg h3, if_neg h3]
        by_cases h4 : k = 6
        · rw [if_pos h4, if_pos h4, nu_and]; exact ⟨by trivial, by trivial⟩
        · rw [if_neg h4, if_neg h4]; exact ⟨by trivial, by trivial⟩
theorem sl_bn (hW : wf_ S) {k a w : Nat} (h : (k = 1 ∨ k = 3) → a < 2) : sl_ S (bn_ S k a w) := by
  have h0 := sl_bb hW
  unfold bn_
  split
  · exact sl_and h0
  · split
    · rename_i h3; exact sl_tu hW (h (Or.inr h3)) h0
    · split
      · exact sl_and h0
      · split
        · exact sl_and h0
        · exact h0
theorem sp_51 (hC : re_C 1 S D) (hW : wf_ S) {x : Int32} {P : Int32 → pu_D → Prop} : pu_I X 51 [.ref 1, .int x] D P = P (nu_b (¬ x < 0 ∧ x < nu_i (2 ^ S 8 0 1))) D := by
  have hn := wf_n hW
  obtain ⟨-, c5, -⟩ := re_n hC
  refine pu_I_of (pu_e51 ?_) P
  rw [c5, nu_sh (by omega)]
  by_cases h1 : x < 0
  · rw [if_pos h1, nu_bF (fun z => z.1 h1)]; exact ⟨by trivial, by trivial⟩
  · rw [if_neg h1]
    by_cases h2 : x < nu_i (2 ^ S 8 0 1)
    · rw [if_pos h2, nu_bT ⟨h1, h2⟩]; exact ⟨by trivial, by trivial⟩
    · rw [if_neg h2, nu_bF (fun z => h2 z.2)]; exact ⟨by trivial, by trivial⟩
end SP
