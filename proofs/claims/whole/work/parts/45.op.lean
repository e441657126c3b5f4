/-! BULBS, SPILL, DIM, THE WORST MONTH. -/
theorem ct_succ {b : Nat → Bool} {n : Nat} : ct_ b (n + 1) = if b n = true then ct_ b n + 1 else ct_ b n := rfl
section OP
variable {X : px_X} {S : Nat → Nat → Nat → Nat} {D : pu_D}
theorem bg_le (hW : wf_ S) {n : Nat} (hn : n ≤ 240) (i : Nat) (hi : i ≤ S 8 0 1) : su_ (fun p => if S 1 p 2 = 0 then 0 else n / S 0 (S 1 p 2 - 1) 3 * (S 0 (S 1 p 2 - 1) 2 + 30)) i ≤ 300000 := by
  have hnn := wf_n hW
  have : su_ (fun p => if S 1 p 2 = 0 then 0 else n / S 0 (S 1 p 2 - 1) 3 * (S 0 (S 1 p 2 - 1) 2 + 30)) i ≤ i * 31000 := su_le fun p hp => by
    have hv := wf_p hW (i := p) (by omega)
    split
    · omega
    · have hvs := wf_s hW (i := S 1 p 2 - 1) (by omega)
      have h1 : n / S 0 (S 1 p 2 - 1) 3 ≤ 240 := Nat.le_trans (Nat.div_le_self _ _) hn
      have h2 : n / S 0 (S 1 p 2 - 1) 3 * (S 0 (S 1 p 2 - 1) 2 + 30) ≤ 240 * 129 := Nat.mul_le_mul h1 (by omega)
      omega
  omega
theorem bc_le (hW : wf_ S) {i : Nat} (hi : i ≤ S 8 0 1) : bc_ S i ≤ 891 := by
  have hnn := wf_n hW
  have : bc_ S i ≤ i * 99 := su_le fun p hp => by
    have hv := wf_p hW (i := p) (by omega)
    split
    · omega
    · have hvs := wf_s hW (i := S 1 p 2 - 1) (by omega)
      omega
  omega
theorem sp_70 (hC : re_C 1 S D) (hW : wf_ S) {n : Nat} {P : Int32 → pu_D → Prop} (hn : n ≤ 240) : pu_I X 70 [.ref 1, .int (nu_i n)] D P = P (nu_i (bg_ S n)) D := by
  have hnn := wf_n hW
  obtain ⟨-, c5, -⟩ := re_n hC
  refine pu_I_of (pu_e70 ?_) P
  refine lo_ix (fun a x => pu_h70_4 X (nu_i n) (nu_i a) x D _) (S 8 0 1) (su_ (fun p => if S 1 p 2 = 0 then 0 else n / S 0 (S 1 p 2 - 1) 3 * (S 0 (S 1 p 2 - 1) 2 + 30))) (fun i hi h => ?_) ?_
  · have hv := wf_p hW hi
    refine pu_u70_4 ?_
    simp (disch := omega) only [c5, nu_lt, hi, if_true, sp_52 hC hW hi, nu_b0, sp_n5_2 hC hW hi, nu_addn]
    by_cases h0 : S 1 i 2 = 0
    · simp only [h0, not_true_eq_false, not_false_eq_true, if_true]
      simp only [su_, h0, if_true, Nat.add_zero] at h
      exact h
    · have hvs := wf_s hW (i := S 1 i 2 - 1) (by omega)
      simp only [h0, not_true_eq_false, not_false_eq_true, if_false]
      rw [nu_lp h0, sp_n3_3 hC hW (by omega)]
      simp only [su_, h0, if_false] at h
      rw [if_neg (show ¬ nu_i (S 0 (S 1 i 2 - 1) 3) < (1 : Int32) from nu_ltx (b := 1) (by omega) (by omega))]
      refine ⟨by rw [nu_eqn (by omega) (by omega)]; show ¬ S 0 (S 1 i 2 - 1) 3 = 0; omega, ?_⟩
      rw [sp_n3_2 hC hW (by omega), nu_div (by omega) (by omega), nu_addn, nu_mul, nu_add]
      exact h
  · refine pu_u70_4 ?_
    simp (disch := omega) only [c5, nu_lt, Nat.lt_irrefl, if_false]
    exact ⟨by trivial, by trivial⟩
theorem bm_le (hW : wf_ S) {n i : Nat} (hi : i ≤ S 8 0 1) : 1 ≤ bm_ S n i ∧ bm_ S n i ≤ n + 1 := by
  induction i with
  | zero => exact ⟨by show 1 ≤ n + 1; omega, Nat.le_refl _⟩
  | succ i ih =>
    have ih := ih (by omega)
    have hv := wf_p hW (i := i) (by omega)
    show 1 ≤ (if S 1 i 2 = 0 then bm_ S n i else min (bm_ S n i) (S 0 (S 1 i 2 - 1) 3)) ∧ (if S 1 i 2 = 0 then bm_ S n i else min (bm_ S n i) (S 0 (S 1 i 2 - 1) 3)) ≤ n + 1
    split
    · exact ih
    · have hvs := wf_s hW (i := S 1 i 2 - 1) (by omega)
      omega
theorem sp_71 (hC : re_C 1 S D) (hW : wf_ S) {n : Nat} {P : Int32 → pu_D → Prop} (hn : n ≤ 240) : pu_I X 71 [.ref 1, .int (nu_i n)] D P = P (nu_i (n / bm_ S n (S 8 0 1) * (bc_ S (S 8 0 1) + 50))) D := by
  have hnn := wf_n hW
  obtain ⟨-, c5, -⟩ := re_n hC
  refine pu_I_of (pu_e71 ?_) P
  rw [nu_addn]
  refine lo_ix (fun (r : Nat × Nat) x => pu_h71_9 X (nu_i n) (nu_i r.1) (nu_i r.2) x D _) (S 8 0 1) (fun i => (bc_ S i, bm_ S n i)) (fun i hi h => ?_) ?_
  · have hv := wf_p hW hi
    have hb := bm_le hW (n := n) (i := i) (Nat.le_of_lt hi)
    have e1 : bc_ S (i + 1) = bc_ S i + (if S 1 i 2 = 0 then 0 else S 0 (S 1 i 2 - 1) 2) := rfl
    have e2 : bm_ S n (i + 1) = (if S 1 i 2 = 0 then bm_ S n i else min (bm_ S n i) (S 0 (S 1 i 2 - 1) 3)) := rfl
    dsimp only at h
    rw [e1, e2] at h
    refine pu_u71_9 ?_
    simp (disch := omega) only [c5, nu_lt, hi, if_true, sp_52 hC hW hi, nu_b0, sp_n5_2 hC hW hi, nu_addn]
    by_cases h0 : S 1 i 2 = 0
    · simp only [h0, not_true_eq_false, not_false_eq_true, if_true] at h ⊢
      exact h
    · have hvs := wf_s hW (i := S 1 i 2 - 1) (by omega)
      simp only [h0, not_true_eq_false, not_false_eq_true, if_false] at h ⊢
      rw [nu_lp h0, sp_n3_2 hC hW (by omega), sp_n3_3 hC hW (by omega)]
      simp (disch := omega) only [nu_lt, nu_add, nu_min]
      exact h
  · have hb := bm_le hW (n := n) (i := S 8 0 1) (Nat.le_refl _)
    have hc := bc_le hW (i := S 8 0 1) (Nat.le_refl _)
    refine pu_u71_9 ?_
    dsimp only
    rw [c5, if_neg (nu_ltx (by omega) (Nat.lt_irrefl _)), if_neg (show ¬ nu_i (bm_ S n (S 8 0 1)) < (1 : Int32) from nu_ltx (b := 1) (by omega) (by omega))]
    refine ⟨by rw [nu_eqn (by omega) (by omega)]; show ¬ bm_ S n (S 8 0 1) = 0; omega, ?_⟩
    rw [nu_div (by omega) (by omega), nu_addn, nu_mul]
    exact ⟨rfl, rfl⟩
/-- the reference's least life: 0 none -/
def lw2_ (S : Nat → Nat → Nat → Nat) (i : Nat) : Nat := fo_ (fun p a => if S 1 p 2 = 0 then a else if a = 0 then S 0 (S 1 p 2 - 1) 3 else if S 0 (S 1 p 2 - 1) 3 < a then S 0 (S 1 p 2 - 1) 3 else a) i 0
def nu_z (a : Nat) : Int32 := if a = 0 then -1 else nu_i a
theorem nu_zm {a : Nat} (ha : a < 2147483648) : (nu_z a = -1) = (a = 0) := by
  unfold nu_z
  by_cases h : a = 0
  · simp [h]
  · rw [if_neg h, nu_m1 ha]; simp [h]
theorem nu_zp {a : Nat} (h : ¬ a = 0) : nu_z a = nu_i a := if_neg h
theorem lw2_le (hW : wf_ S) {i : Nat} (hi : i ≤ S 8 0 1) : lw2_ S i ≤ 99 := by
  induction i with
  | zero => exact Nat.zero_le _
  | succ i ih =>
    have ih := ih (by omega)
    have hv := wf_p hW (i := i) (by omega)
    show (if S 1 i 2 = 0 then lw2_ S i else if lw2_ S i = 0 then S 0 (S 1 i 2 - 1) 3 else if S 0 (S 1 i 2 - 1) 3 < lw2_ S i then S 0 (S 1 i 2 - 1) 3 else lw2_ S i) ≤ 99
    split
    · exact ih
    · have hvs := wf_s hW (i := S 1 i 2 - 1) (by omega)
      split
      · omega
      · split <;> omega
theorem bm_lw (hW : wf_ S) {n i : Nat} (hi : i ≤ S 8 0 1) : bm_ S n i = if lw2_ S i = 0 then n + 1 else min (n + 1) (lw2_ S i) := by
  induction i with
  | zero => rfl
  | succ i ih =>
    have ih := ih (by omega)
    have hv := wf_p hW (i := i) (by omega)
    have e1 : lw2_ S (i + 1) = (if S 1 i 2 = 0 then lw2_ S i else if lw2_ S i = 0 then S 0 (S 1 i 2 - 1) 3 else if S 0 (S 1 i 2 - 1) 3 < lw2_ S i then S 0 (S 1 i 2 - 1) 3 else lw2_ S i) := rfl
    have e2 : bm_ S n (i + 1) = (if S 1 i 2 = 0 then bm_ S n i else min (bm_ S n i) (S 0 (S 1 i 2 - 1) 3)) := rfl
    rw [e1, e2, ih]
    by_cases h0 : S 1 i 2 = 0
    · simp only [h0, if_true]
    · have hvs := wf_s hW (i := S 1 i 2 - 1) (by omega)
      simp only [h0, if_false]
      by_cases h1 : lw2_ S i = 0
      · simp only [h1, if_true]
        rw [if_neg (by omega)]
      · simp only [h1, if_false]
        by_cases h2 : S 0 (S 1 i 2 - 1) 3 < lw2_ S i
        · simp only [h2, if_true]
          rw [if_neg (by omega)]; omega
        · simp only [h2, if_false, h1]; omega
theorem bm_fin (hW : wf_ S) {n : Nat} : n / bm_ S n (S 8 0 1) = if lw2_ S (S 8 0 1) = 0 then 0 else n / lw2_ S (S 8 0 1) := by
  rw [bm_lw hW (Nat.le_refl _)]
  by_cases h1 : lw2_ S (S 8 0 1) = 0
  · rw [if_pos h1, if_pos h1]; exact Nat.div_eq_of_lt (by omega)
  · rw [if_neg h1, if_neg h1]
    rcases Nat.lt_or_ge n (lw2_ S (S 8 0 1)) with h2 | h2
    · rw [Nat.min_eq_left (by omega), Nat.div_eq_of_lt (by omega), Nat.div_eq_of_lt h2]
    · rw [Nat.min_eq_right (by omega)]
theorem mp_232L (hM : re_M S D) (hW : wf_ S) {n : Nat} {x2 : Int32} {P : Int32 → pu_D → Prop} (hn : n ≤ 240) (h : if x2 = 0 then P (nu_i (bg_ S n)) D else P (nu_i (n / bm_ S n (S 8 0 1) * (bc_ S (S 8 0 1) + 50))) D) : pu_h232_30 X (nu_i n) x2 0 (-1) 0 0 D P := by
  have hnn := wf_n hW
  obtain ⟨-, c5, -⟩ := rm_n hM
  refine lo_ix (fun (r : Nat × Nat × Nat) x => pu_h232_30 X (nu_i n) x2 (nu_i r.1) (nu_z r.2.1) (nu_i r.2.2) x D P) (S 8 0 1) (fun i => (su_ (fun p => if S 1 p 2 = 0 then 0 else n / S 0 (S 1 p 2 - 1) 3 * (S 0 (S 1 p 2 - 1) 2 + 30)) i, lw2_ S i, bc_ S i)) (fun i hi hy => ?_) ?_
  · have hv := wf_p hW hi
    have hlw := lw2_le hW (Nat.le_of_lt hi)
    have e1 : lw2_ S (i + 1) = (if S 1 i 2 = 0 then lw2_ S i else if lw2_ S i = 0 then S 0 (S 1 i 2 - 1) 3 else if S 0 (S 1 i 2 - 1) 3 < lw2_ S i then S 0 (S 1 i 2 - 1) 3 else lw2_ S i) := rfl
    have e2 : bc_ S (i + 1) = bc_ S i + (if S 1 i 2 = 0 then 0 else S 0 (S 1 i 2 - 1) 2) := rfl
    dsimp only at hy
    rw [e1, e2] at hy
    refine pu_u232_30 ?_
    simp (disch := omega) only [c5, nu_lt, hi, if_true, nu_in, nu_ix, mc_93 hM, nu_lm, nu_addn]
    refine ⟨by omega, ?_⟩
    by_cases h0 : S 1 i 2 = 0
    · rw [if_pos h0]
      simp only [su_, h0, if_true, Nat.add_zero] at hy
      exact hy
    · have hvs := wf_s hW (i := S 1 i 2 - 1) (by omega)
      rw [if_neg h0]
      simp only [su_, h0, if_false] at hy
      rw [nu_lp h0]
      simp (disch := omega) only [nu_in, nu_ix, mc_90 hM, mc_89 hM, nu_eqn, nu_zm, nu_div, nu_addn, nu_mul, nu_add]
      refine ⟨by omega, by omega, by omega, by omega, by omega, by omega, by omega, ?_⟩
      by_cases h1 : lw2_ S i = 0
      · rw [if_pos h1]
        rw [if_pos h1, nu_zp (by omega)] at hy
        exact hy
      · rw [if_neg h1]
        rw [if_neg h1] at hy
        rw [nu_zp h1]
        by_cases h2 : S 0 (S 1 i 2 - 1) 3 < lw2_ S i
        · rw [if_pos (nu_ltp (by omega) h2)]
          rw [if_pos h2, nu_zp (by omega)] at hy
          exact hy
        · rw [if_neg (nu_ltx (by omega) h2)]
          rw [if_neg h2, nu_zp h1] at hy
          exact hy
  · have hlw := lw2_le hW (Nat.le_refl (S 8 0 1))
    refine pu_u232_30 ?_
    dsimp only
    rw [c5, if_neg (nu_ltx (by omega) (Nat.lt_irrefl _))]
    by_cases h2 : x2 = 0
    · rw [if_pos h2]; rw [if_pos h2] at h; exact h
    · rw [if_neg h2]; rw [if_neg h2, bm_fin hW] at h
      by_cases h1 : lw2_ S (S 8 0 1) = 0
      · rw [if_pos (by rw [nu_zm (by omega)]; exact h1)]
        rw [if_pos h1, Nat.zero_mul] at h
        exact h
      · rw [if_neg (by rw [nu_zm (by omega)]; exact h1), nu_zp h1]
        rw [if_neg h1] at h
        refine ⟨by rw [nu_eqn (by omega) (by omega)]; exact h1, ?_⟩
        rw [nu_div (by omega) (by omega), nu_addn, nu_mul]
        exact h
theorem oq_121 (h : rel_ D) {x1 x2 : Int32} : op_ X D 121 [.ref 0, .int x1, .int x2] 232 [.ref 85, .int x1, .int x2] := by
  obtain ⟨S, hr⟩ := h
  obtain ⟨hW, hC, hM, -⟩ := id hr
  refine pu_e121 ?_
  by_cases h1 : x1 < 1
  · rw [if_pos h1, sp_130_6]
    refine pu_e232 ?_
    rw [if_pos h1, mp_149_6]
    exact ⟨rfl, S, rx_rf hr⟩
  · rw [if_neg h1]
    by_cases h2 : 240 < x1
    · rw [if_pos h2, sp_130_6]
      refine pu_e232 ?_
      rw [if_neg h1, if_pos h2, mp_149_6]
      exact ⟨rfl, S, rx_rf hr⟩
    · rw [if_neg h2]
      have h0 : ¬ x1 < 0 := fun z => h1 (Int32.lt_trans z (by decide))
      have e := nu_ge h0
      have hb := nu_geb x1
      rw [e] at h1 h2 ⊢
      generalize x1.toNatClampNeg = n at *
      have hn : n ≤ 240 := by
        rw [nu_nlt (by omega) (by omega)] at h2
        have : ¬ 240 < n := h2
        omega
      have hmo : (if x2 = 0 then (nu_i (bg_ S n)) else (nu_i (n / bm_ S n (S 8 0 1) * (bc_ S (S 8 0 1) + 50)))) = (if x2 = 0 then (nu_i (bg_ S n)) else (nu_i (n / bm_ S n (S 8 0 1) * (bc_ S (S 8 0 1) + 50)))) := rfl
      by_cases h3 : x2 = 0
      · rw [if_pos h3, sp_70 hC hW hn]
        refine pu_e232 ?_
        rw [if_neg h1, if_neg h2]
        refine mp_232L hM hW hn ?_
        rw [if_pos h3]; exact ⟨rfl, S, hr⟩
      · rw [if_neg h3, sp_71 hC hW hn]
        refine pu_e232 ?_
        rw [if_neg h1, if_neg h2]
        refine mp_232L hM hW hn ?_
        rw [if_neg h3]; exact ⟨rfl, S, hr⟩
theorem su_ge {f : Nat → Nat} {n i : Nat} (hi : i < n) : f i ≤ su_ f n := by
  induction n with
  | zero => exact absurd hi (Nat.not_lt_zero _)
  | succ n ih =>
    unfold su_
    by_cases h : i = n
    · subst h; omega
    · have := ih (by omega); omega
/-- the light of the laying that stands -/
def l0_ (S : Nat → Nat → Nat → Nat) (q m : Nat) : Nat := li_ S (bb_ S) false q m + sh_ S q 0
theorem l0_lt {q m : Nat} : lt_ S 0 0 0 q m 0 = l0_ S q m := rfl
theorem l0_le (hW : wf_ S) {q m : Nat} : l0_ S q m ≤ 900000 := lt_le hW (k := 0) (a := 0) (w := 0) (q := q) (m := m) (h := 0) (by omega)
theorem oq_119 (h : rel_ D) {x1 x2 : Int32} : op_ X D 119 [.ref 0, .int x1, .int x2] 230 [.ref 85, .int x1, .int x2] := by
  obtain ⟨S, hr⟩ := h
  obtain ⟨hW, hC, hM, -⟩ := id hr
  have hn := wf_n hW
  have hMM := wf_m hW
  have hrg : ∀ (D1 : pu_D) (A B : Prop), re_M S D1 → (rg_ x1 (S 8 0 5) → A) → (¬ rg_ x1 (S 8 0 5) → B) → if x1 < 0 then B else if x1 < D1.1 85 5 then A else B := by
    intro D1 A B hM1 hA hB
    rw [(rm_n hM1).2.2.2.2.2.1]
    by_cases h1 : x1 < 0
    · rw [if_pos h1]; exact hB fun z => z.1 h1
    · rw [if_neg h1]
      by_cases h2 : x1 < nu_i (S 8 0 5)
      · rw [if_pos h2]; exact hA ⟨h1, h2⟩
      · rw [if_neg h2]; exact hB fun z => h2 z.2
  refine pu_e119 ?_
  rw [sp_81c hC]
  by_cases c1 : rg_ x1 (S 8 0 5)
  · rw [nu_bT c1, if_neg (by decide), sp_140b]
    by_cases c2 : rg_ x2 12
    · rw [nu_bT c2, if_neg (by decide), sp_56 hC hW, (re_m hC).1]
      obtain ⟨i, hi, rfl⟩ := rg_e (by omega) c1
      obtain ⟨m, hm, rfl⟩ := rg_e (by omega) c2
      have hvh := wf_h hW hi
      have hb : ∀ q, so_ S i q 0 ≤ l0_ S q m := fun q => by
        have : so_ S i q 0 ≤ sh_ S q 0 := su_ge (f := fun i => so_ S i q 0) hi
        unfold l0_; omega
      have hle : ∀ q, l0_ S q m ≤ 900000 := fun q => l0_le hW
      refine lo_ix (fun a x => pu_h119_59 X (nu_i i) (nu_i m) (nu_i (bb_ S)) (nu_i (S 7 0 0)) (nu_i a) x D _) 120 (ct_ (fun q => !decide (l0_ S q m < S 7 0 0) && decide (l0_ S q m - so_ S i q 0 < S 7 0 0))) (fun q hq hy => ?_) ?_
      · have e67 := sp_67 (X := X) hC hW (i := i) (q := q) (hh := 0) (P := fun y14 D15 => if y14 = 0 then (pu_h119_59 X (nu_i i) (nu_i m) (nu_i (bb_ S)) (nu_i (S 7 0 0)) (nu_i (ct_ (fun q => !decide (l0_ S q m < S 7 0 0) && decide (l0_ S q m - so_ S i q 0 < S 7 0 0)) q)) (nu_i q + 1) D15 (fun y1 D1 => pu_I X 230 [.ref 85, .int (nu_i i), .int (nu_i m)] D1 (fun y2 D2 => y1 = y2 ∧ rel_ D2))) else (pu_I X 64 [.ref 1, .int (nu_i (bb_ S)), .int 0, .int (nu_i q), .int (nu_i m)] D15 (fun y17 D18 => pu_I X 68 [.ref 1, .int (nu_i q), .int 0] D18 (fun y19 D20 => if (y17 + y19) < nu_i (S 7 0 0) then (pu_h119_59 X (nu_i i) (nu_i m) (nu_i (bb_ S)) (nu_i (S 7 0 0)) (nu_i (ct_ (fun q => !decide (l0_ S q m < S 7 0 0) && decide (l0_ S q m - so_ S i q 0 < S 7 0 0)) q)) (nu_i q + 1) D20 (fun y1 D1 => pu_I X 230 [.ref 85, .int (nu_i i), .int (nu_i m)] D1 (fun y2 D2 => y1 = y2 ∧ rel_ D2))) else (if ((y17 + y19) - y14) < nu_i (S 7 0 0) then (pu_h119_59 X (nu_i i) (nu_i m) (nu_i (bb_ S)) (nu_i (S 7 0 0)) (nu_i (ct_ (fun q => !decide (l0_ S q m < S 7 0 0) && decide (l0_ S q m - so_ S i q 0 < S 7 0 0)) q) + 1) (nu_i q + 1) D20 (fun y1 D1 => pu_I X 230 [.ref 85, .int (nu_i i), .int (nu_i m)] D1 (fun y2 D2 => y1 = y2 ∧ rel_ D2))) else (pu_h119_59 X (nu_i i) (nu_i m) (nu_i (bb_ S)) (nu_i (S 7 0 0)) (nu_i (ct_ (fun q => !decide (l0_ S q m < S 7 0 0) && decide (l0_ S q m - so_ S i q 0 < S 7 0 0)) q)) (nu_i q + 1) D20 (fun y1 D1 => pu_I X 230 [.ref 85, .int (nu_i i), .int (nu_i m)] D1 (fun y2 D2 => y1 = y2 ∧ rel_ D2)))))))) hi (by omega) (by omega)
        have e64 := fun P => sp_64 (X := X) hC hW (set := bb_ S) (h := false) (P := P) (sl_bb hW) hq hm
        have e68 := fun P => sp_68 (X := X) hC hW (q := q) (hh := 0) (P := P) hq (by omega)
        have hbq := hb q
        have hlq := hle q
        refine pu_u119_59 ?_
        rw [if_pos (show nu_i q < (120 : Int32) from nu_ltp (b := 120) (by omega) hq)]
        refine e67.mpr ?_
        rw [nu_addn]
        by_cases hs0 : so_ S i q 0 = 0
        · rw [if_pos (by rw [hs0]; rfl)]
          have : (!decide (l0_ S q m < S 7 0 0) && decide (l0_ S q m - so_ S i q 0 < S 7 0 0)) = false := by
            rw [hs0, Nat.sub_zero]; by_cases z : l0_ S q m < S 7 0 0 <;> simp [z]
          simp only [ct_, this, if_false, Bool.false_eq_true] at hy
          exact hy
        · have hso := (so_le hW (i := i) (q := q) (h := 0) hi).1
          rw [if_neg (by rw [nu_eqn (by omega) (by omega)]; exact hs0)]
          refine (e64 _).mpr ((e68 _).mpr ?_)
          rw [nu_add]
          change if nu_i (l0_ S q m) < nu_i (S 7 0 0) then _ else if nu_i (l0_ S q m) - nu_i (so_ S i q 0) < nu_i (S 7 0 0) then _ else _
          rw [nu_sub hbq]
          by_cases z1 : l0_ S q m < S 7 0 0
          · rw [if_pos (nu_ltp (by omega) z1)]
            simp only [ct_, z1, decide_true, Bool.not_true, Bool.false_and, if_false, Bool.false_eq_true] at hy
            exact hy
          · rw [if_neg (nu_ltx (by omega) z1)]
            by_cases z2 : l0_ S q m - so_ S i q 0 < S 7 0 0
            · rw [if_pos (nu_ltp (by omega) z2), nu_addn]
              simp only [ct_, z1, z2, decide_true, decide_false, Bool.not_false, Bool.true_and, if_true] at hy
              exact hy
            · rw [if_neg (nu_ltx (by omega) z2)]
              simp only [ct_, z1, z2, decide_false, Bool.and_false, if_false, Bool.false_eq_true] at hy
              exact hy
      · refine pu_u119_59 ?_
        rw [if_neg (show ¬ nu_i 120 < (120 : Int32) from nu_ltx (b := 120) (by omega) (Nat.lt_irrefl _))]
        refine pu_e230 (hrg D _ _ hM (fun _ => ?_) (fun z => absurd c1 z))
        rw [mp_156, nu_bT c2, if_neg (by decide), nu_ix (show i < 2147483648 by omega), mc_101 hM hi]
        refine ⟨by rw [nu_in (by omega)]; omega, ?_⟩
        by_cases ht : S 5 i 2 = 0
        · rw [if_pos (by rw [ht]; rfl)]
          have hz : ∀ n, ct_ (fun q => !decide (l0_ S q m < S 7 0 0) && decide (l0_ S q m - so_ S i q 0 < S 7 0 0)) n = 0 := by
            intro n
            induction n with
            | zero => rfl
            | succ n ih =>
              have hs0 : so_ S i n 0 = 0 := by unfold so_; rw [ht, if_neg (by omega)]
              unfold ct_
              rw [ih, hs0, Nat.sub_zero]
              by_cases z : l0_ S n m < S 7 0 0 <;> simp [z]
          rw [hz]
          exact ⟨rfl, S, hr⟩
        · rw [if_neg (by rw [nu_eqn (by omega) (by omega)]; exact ht)]
          refine lo_ix (fun a x => pu_h230_49 X (nu_i i) (nu_i m) (nu_i a) x D _) 120 (ct_ (fun q => !decide (l0_ S q m < S 7 0 0) && decide (l0_ S q m - so_ S i q 0 < S 7 0 0))) (fun q hq hy => ?_) ?_
          · have e206 := fun P => mp_206 (X := X) hM hW (k := 0) (a := 0) (w := 0) (q := q) (m := m) (hh := 0) (P := P) (by omega) (by omega) (by omega) (by omega) hq hm (by omega)
            have hso : so_ S i q 0 = sa_ S i q := by unfold so_; rw [if_pos (by omega)]
            have hsl := so_le hW (i := i) (q := q) (h := 0) hi
            have hbq := hb q
            have hlq := hle q
            refine pu_u230_49 ?_
            rw [if_pos (show nu_i q < (120 : Int32) from nu_ltp (b := 120) (by omega) hq)]
            refine (e206 _).mpr ?_
            rw [(rm_m hM).1, nu_addn]
            change if nu_i (l0_ S q m) < nu_i (S 7 0 0) then _ else _
            by_cases z1 : l0_ S q m < S 7 0 0
            · rw [if_pos (nu_ltp (by omega) z1)]
              rw [ct_succ (n := q), if_neg (by simp [z1])] at hy
              exact hy
            · rw [if_neg (nu_ltx (by omega) z1), mp_204 hM hW hi hq, (rm_m hM).1, ← hso]
              change if nu_i (l0_ S q m) - nu_i (so_ S i q 0) < nu_i (S 7 0 0) then _ else _
              rw [nu_sub hbq]
              by_cases z2 : l0_ S q m - so_ S i q 0 < S 7 0 0
              · rw [if_pos (nu_ltp (by omega) z2), nu_addn]
                rw [ct_succ (n := q), if_pos (by simp [z1, z2])] at hy
                exact hy
              · rw [if_neg (nu_ltx (by omega) z2)]
                rw [ct_succ (n := q), if_neg (by simp [z2])] at hy
                exact hy
          · refine pu_u230_49 ?_
            rw [if_neg (show ¬ nu_i 120 < (120 : Int32) from nu_ltx (b := 120) (by omega) (Nat.lt_irrefl _))]
            exact ⟨rfl, S, hr⟩
    · rw [nu_bF c2, if_pos rfl, sp_130_6]
      refine pu_e230 (hrg _ _ _ (rm_rf hM) (fun _ => ?_) (fun z => absurd c1 z))
      rw [mp_156, nu_bF c2, if_pos rfl, mp_149_6]
      exact ⟨rfl, S, rx_rf hr⟩
  · rw [nu_bF c1, if_pos rfl, sp_130_1]
    have hfin : pu_I X 149 [.ref 85, .int (-1)] (rf_ D 1) (fun y2 D2 => -1 = y2 ∧ rel_ D2) := by
      rw [mp_149_1]; exact ⟨rfl, S, rx_rf hr⟩
    refine pu_e230 ?_
    rw [(rm_n (rm_rf (k := 1) hM)).2.2.2.2.2.1]
    by_cases h1 : x1 < 0
    · rw [if_pos h1]; exact hfin
    · rw [if_neg h1, if_neg (fun z => c1 ⟨h1, z⟩)]; exact hfin
end OP
