/-! CHOOSING, further. -/
/-- the brightest place aside: 0 none, p + 1 -/
def ba2_ (S : Nat → Nat → Nat → Nat) (s m q t : Nat) (n : Nat) : Nat := fo_ (fun p b => if t.testBit p = true then b else if b = 0 then p + 1 else if gv_ S (b - 1) s q m < gv_ S p s q m then p + 1 else b) n 0
def bs2_ (S : Nat → Nat → Nat → Nat) (s m q t : Nat) : Nat := ba2_ S s m q t (S 8 0 1)
/-- the light and the set after n lamps at a point -/
def nl_ (S : Nat → Nat → Nat → Nat) (s m q : Nat) : Nat → Nat × Nat
  | 0 => (sh_ S q 0, 0)
  | n + 1 => ((nl_ S s m q n).1 + gv_ S (bs2_ S s m q (nl_ S s m q n).2 - 1) s q m, (nl_ S s m q n).2 ||| 1 <<< (bs2_ S s m q (nl_ S s m q n).2 - 1))
section CH
variable {X : px_X} {S : Nat → Nat → Nat → Nat} {D : pu_D}
theorem sp_15L {s m set j a : Nat} {P : Int32 → pu_D → Prop} (hc : cp_ S s m D) (hW : wf_ S) (hset : set < 512) (hj : j < S 7 0 3 * 2) (hs : s < S 8 0 0) (ha : a ≤ 10000) (h : pu_h15_20 X (nu_i set) (nu_i j) (nu_i (a + su_ (fun p => if set.testBit p = true then gv_ S p s j m else 0) (S 8 0 1))) (nu_i (S 8 0 1)) D P) : pu_h15_20 X (nu_i set) (nu_i j) (nu_i a) 0 D P := by
  have hn := wf_n hW
  have hM := wf_m hW
  refine lo_ix (fun b x => pu_h15_20 X (nu_i set) (nu_i j) (nu_i b) x D P) (S 8 0 1) (fun i => a + su_ (fun p => if set.testBit p = true then gv_ S p s j m else 0) i) (fun i hi h => ?_) h
  refine pu_u15_20 ?_
  simp (disch := omega) only [hc.2.1, nu_lt, hi, if_true, sp_142, nu_b0, nu_muln, nu_add, nu_in, nu_ix, (hc.2.2.2.1 j hj).2.2.2 i hi, nu_addn]
  by_cases hb : set.testBit i = true
  · rw [if_neg (by simpa using hb)]
    simp only [su_, hb, if_true] at h
    exact ⟨by omega, by rw [Nat.add_assoc]; exact h⟩
  · rw [if_pos hb]
    simp only [su_, hb, if_false, Nat.add_zero, Bool.false_eq_true] at h
    exact h
theorem be_ok {s m set : Nat} : be_ S s m set = true ↔ ∀ j, j < S 7 0 3 * 2 → (ip_ S j = false → S 7 0 0 ≤ fl_ S s m set j) ∧ (ip_ S j = true → fl_ S s m set j ≤ 5) := by
  have h1 := fi_at (fun j => decide (fl_ S s m set j < S 7 0 0) && !ip_ S j) (S 7 0 3 * 2)
  have h2 := fi_at (fun j => decide (5 < fl_ S s m set j) && ip_ S j) (S 7 0 3 * 2)
  rw [show fi_ _ (S 7 0 3 * 2) = k1_ S (fl_ S s m set) from rfl] at h1
  rw [show fi_ _ (S 7 0 3 * 2) = k2_ S (fl_ S s m set) from rfl] at h2
  unfold be_
  simp only [Bool.and_eq_true, Bool.not_eq_true', decide_eq_false_iff_not]
  constructor
  · rintro ⟨a, b⟩ j hj
    have c1 := h1.2 j (by omega)
    have c2 := h2.2 j (by omega)
    simp only [Bool.and_eq_false_iff, decide_eq_false_iff_not, Bool.not_eq_false'] at c1 c2
    refine ⟨fun hp => ?_, fun hp => ?_⟩
    · rcases c1 with c | c
      · omega
      · rw [hp] at c; cases c
    · rcases c2 with c | c
      · omega
      · rw [hp] at c; cases c
  · intro hall
    refine ⟨fun a => ?_, fun a => ?_⟩
    · have := h1.1 a
      simp only [Bool.and_eq_true, decide_eq_true_eq, Bool.not_eq_true'] at this
      have h3 := (hall _ a).1 this.2
      omega
    · have := h2.1 a
      simp only [Bool.and_eq_true, decide_eq_true_eq] at this
      have h3 := (hall _ a).2 this.2
      omega
theorem sp_15 (hW : wf_ S) {s m set : Nat} {P : Int32 → pu_D → Prop} (hc : cp_ S s m D) (hset : set < 512) (hs : s < S 8 0 0) (hk : ∀ D', ag_ (fun q _ => q = 65) D D' → (be_ S s m set = true → ll_ S 62 (fl_ S s m set) D') → P (nu_b (be_ S s m set = true)) D') : pu_I X 15 [.ref 56, .int (nu_i set)] D P := by
  have hn := wf_n hW
  have hM := wf_m hW
  refine pu_e15 ?_
  refine lo_S (fun i D' => ag_ (fun q _ => q = 65) D D' ∧ ∀ j, j < i → D'.1 65 j = nu_i (fl_ S s m set j) ∧ (ip_ S j = false → S 7 0 0 ≤ fl_ S s m set j) ∧ (ip_ S j = true → fl_ S s m set j ≤ 5)) (fun D' x => pu_h15_2 X (nu_i set) x D' P) (S 7 0 3 * 2) D ⟨ag_rf D, fun j hj => absurd hj (Nat.not_lt_zero _)⟩ (fun i D' hi hI hk2 => ?_) (fun D' hI => ?_)
  · obtain ⟨h1, h2⟩ := hI
    have hc' := cp_ag hc h1 (fun q j hz => hz)
    have hf := fl_le hW (s := s) (m := m) (set := set) (j := i) hs
    have hsh := sh_le hW (q := i) (h := 0)
    obtain ⟨a1, a2, a3, a4⟩ := hc'.2.2.2.1 i hi
    refine pu_u15_2 ?_
    simp (disch := omega) only [hc'.1, nu_lt, hi, if_true, nu_in, nu_ix, a3]
    refine ⟨by omega, ?_⟩
    refine sp_15L hc' hW hset hi hs (by omega) ?_
    change pu_h15_20 X (nu_i set) (nu_i i) (nu_i (fl_ S s m set i)) (nu_i (S 8 0 1)) D' P
    refine pu_u15_20 ?_
    simp (disch := omega) only [hc'.2.1, nu_lt, Nat.lt_irrefl, if_false, nu_in, nu_ix, a1, a2, nu_addn]
    refine ⟨by omega, ?_⟩
    have hbad : ∀ (hx : ¬ ((ip_ S i = false → S 7 0 0 ≤ fl_ S s m set i) ∧ (ip_ S i = true → fl_ S s m set i ≤ 5))), P 0 D' := by
      intro hx
      have hne : ¬ be_ S s m set = true := fun z => hx (be_ok.mp z i hi)
      have := hk D' h1 (fun z => absurd z hne)
      rw [nu_bF hne] at this
      exact this
    have hgood : ((ip_ S i = false → S 7 0 0 ≤ fl_ S s m set i) ∧ (ip_ S i = true → fl_ S s m set i ≤ 5)) → pu_h15_2 X (nu_i set) (nu_i (i + 1)) (pu_wi D' 65 i (nu_i (fl_ S s m set i))) P := by
      intro hg
      refine hk2 _ ⟨ag_wi h1 rfl, fun j hj => ?_⟩
      by_cases hji : j = i
      · subst hji; exact ⟨wi_eq, hg⟩
      · rw [wi_j hji]; exact h2 j (by omega)
    by_cases hp : ip_ S i = true
    · simp (disch := omega) only [hp, if_true, nu_lt, Nat.not_lt_zero, if_false]
      refine ⟨by omega, ?_⟩
      by_cases h5 : 5 < fl_ S s m set i
      · rw [if_pos h5]; exact hbad (fun z => by have := z.2 hp; omega)
      · rw [if_neg h5]; exact ⟨by omega, hgood ⟨fun z => (by rw [hp] at z; cases z), fun _ => (by omega)⟩⟩
    · simp (disch := omega) only [hp, if_false, nu_lt, Bool.false_eq_true]
      have hp2 : ip_ S i = false := by simpa using hp
      by_cases h5 : fl_ S s m set i < S 7 0 0
      · rw [if_pos h5]; exact hbad (fun z => by have := z.1 hp2; omega)
      · rw [if_neg h5]
        refine ⟨by omega, ?_⟩
        rw [if_neg (show ¬ 2147483647 < fl_ S s m set i by omega)]
        exact ⟨by omega, hgood ⟨fun _ => (by omega), fun z => (by rw [hp2] at z; cases z)⟩⟩
  · obtain ⟨h1, h2⟩ := hI
    have hc' := cp_ag hc h1 (fun q j hz => hz)
    have hb : be_ S s m set = true := be_ok.mpr fun j hj => (h2 j hj).2
    refine pu_u15_2 ?_
    simp (disch := omega) only [hc'.1, nu_lt, Nat.lt_irrefl, if_false]
    have := hk D' h1 (fun _ j hj => ⟨(h2 j hj).1, by have := fl_le hW (s := s) (m := m) (set := set) (j := j) hs; omega⟩)
    rw [nu_bT hb] at this
    exact this
theorem ru_be {s m set : Nat} (h : ru_ S (fl_ S s m set) = 0) : be_ S s m set = true := by
  unfold ru_ at h
  unfold be_
  by_cases h1 : k1_ S (fl_ S s m set) < S 7 0 3 * 2
  · rw [if_pos h1] at h; cases h
  · rw [if_neg h1] at h
    by_cases h2 : k2_ S (fl_ S s m set) < S 7 0 3 * 2
    · rw [if_pos h2] at h; cases h
    · simp [h1, h2]
theorem sp_13 (hC : re_C 1 S D) (hW : wf_ S) {s m set : Nat} {P : Int32 → pu_D → Prop} (hc : cp_ S s m D) (hset : set < 512) (hs : s < S 8 0 0) (hk : ∀ D', ag_ (fun q _ => q = 65) D D' → P (nu_b (ru_ S (fl_ S s m set) = 0)) D') : pu_I X 13 [.ref 56, .ref 1, .int (nu_i set)] D P := by
  refine pu_e13 ?_
  refine sp_15 hW hc hset hs fun D' a1 hl => ?_
  have hC' := re_Z hC a1 (fun q j hz => by omega)
  have hc' := cp_ag hc a1 (fun q j hz => hz)
  have hr := ru_le (S := S) (f := fl_ S s m set)
  have hk2 := hk D' a1
  simp only [nu_b0]
  by_cases hb : be_ S s m set = true
  · rw [if_neg (by simpa using hb), sp_23 hC' hW (Or.inr rfl) hc'.2.2.1 (hl hb)]
    simp (disch := omega) only [nu_eqn]
    by_cases h0 : ru_ S (fl_ S s m set) = 0
    · rw [if_pos h0]; rw [nu_bT h0] at hk2; exact hk2
    · rw [if_neg h0]; rw [nu_bF h0] at hk2; exact hk2
  · rw [if_pos hb]
    rw [nu_bF (fun z => hb (ru_be z))] at hk2; exact hk2
theorem wo_lt {set p : Nat} (h : set < 512) : wo_ set p < 512 := Nat.lt_of_le_of_lt Nat.and_le_left h
theorem sp_14 (hW : wf_ S) {s m set : Nat} {P : Int32 → pu_D → Prop} (hc : cp_ S s m D) (hset : set < 512) (hs : s < S 8 0 0) (hk : ∀ D', ag_ (fun q _ => q = 65) D D' → P (nu_b (fm_ S s m set = true)) D') : pu_I X 14 [.ref 56, .int (nu_i set)] D P := by
  have hn := wf_n hW
  refine pu_e14 ?_
  refine lo_S (fun i D' => ag_ (fun q _ => q = 65) D D' ∧ ∀ p, p < i → (set.testBit p && !be_ S s m (wo_ set p)) = false) (fun D' x => pu_h14_2 X (nu_i set) x D' P) (S 8 0 1) D ⟨ag_rf D, fun j hj => absurd hj (Nat.not_lt_zero _)⟩ (fun i D' hi hI hk2 => ?_) (fun D' hI => ?_)
  · obtain ⟨h1, h2⟩ := hI
    have hc' := cp_ag hc h1 (fun q j hz => hz)
    refine pu_u14_2 ?_
    simp (disch := omega) only [hc'.2.1, nu_lt, hi, if_true, sp_142, nu_b0, nu_noS, nu_addn]
    by_cases hb : set.testBit i = true
    · rw [if_neg (by simpa using hb)]
      change pu_I X 15 [.ref 56, .int (nu_i (wo_ set i))] D' _
      refine sp_15 hW hc' (wo_lt hset) hs fun D2 a2 hl => ?_
      simp only [nu_b0]
      by_cases hbe : be_ S s m (wo_ set i) = true
      · rw [if_neg (by simpa using hbe)]
        refine hk2 D2 ⟨ag_tr h1 a2, fun p hp => ?_⟩
        by_cases hpi : p = i
        · subst hpi; simp [hbe]
        · exact h2 p (by omega)
      · rw [if_pos hbe]
        have hf : ¬ fm_ S s m set = true := by
          have e : fi_ (fun p => set.testBit p && !be_ S s m (wo_ set p)) (S 8 0 1) = i := fi_eq (Nat.le_of_lt hi) h2 (fun _ => by simp [hb, hbe])
          unfold fm_
          rw [e]; simp [hi]
        have := hk D2 (ag_tr h1 a2)
        rw [nu_bF hf] at this
        exact this
    · rw [if_pos hb]
      refine hk2 D' ⟨h1, fun p hp => ?_⟩
      by_cases hpi : p = i
      · subst hpi; simp [hb]
      · exact h2 p (by omega)
  · obtain ⟨h1, h2⟩ := hI
    have hc' := cp_ag hc h1 (fun q j hz => hz)
    have e : fi_ (fun p => set.testBit p && !be_ S s m (wo_ set p)) (S 8 0 1) = S 8 0 1 := fi_eq (Nat.le_refl _) h2 (fun h => absurd h (Nat.lt_irrefl _))
    have hf : fm_ S s m set = true := by unfold fm_; rw [e]; simp
    refine pu_u14_2 ?_
    simp (disch := omega) only [hc'.2.1, nu_lt, Nat.lt_irrefl, if_false]
    have := hk D' h1
    rw [nu_bT hf] at this
    exact this
theorem bx_le {s m w i : Nat} : bx_ S s m w i ≤ i := by
  induction i with
  | zero => exact Nat.le_refl _
  | succ i ih =>
    show (if (bx_ S s m w i = 0 ∨ bt_ S s w i (bx_ S s m w i - 1) = true) ∧ ru_ S (fl_ S s m i) = 0 ∧ (w = 2 → fm_ S s m i = true) then i + 1 else bx_ S s m w i) ≤ i + 1
    split <;> omega
theorem bx_succ {s m w i : Nat} : bx_ S s m w (i + 1) = (if (bx_ S s m w i = 0 ∨ bt_ S s w i (bx_ S s m w i - 1) = true) ∧ ru_ S (fl_ S s m i) = 0 ∧ (w = 2 → fm_ S s m i = true) then i + 1 else bx_ S s m w i) := rfl
theorem sp_10 (hC : re_C 1 S D) (hW : wf_ S) {s m w : Nat} {P : Int32 → pu_D → Prop} (hc : cp_ S s m D) (hs : s < S 8 0 0) (hw : w < 3) (hk : ∀ D', ag_ (fun q _ => q = 65) D D' → P (nu_l (bx_ S s m w (2 ^ S 8 0 1))) D') : pu_I X 10 [.ref 56, .ref 1, .int (nu_i w)] D P := by
  have hn := wf_n hW
  have hp2 : (2 : Nat) ^ S 8 0 1 ≤ 512 := show (2 : Nat) ^ S 8 0 1 ≤ 2 ^ 9 from Nat.pow_le_pow_right (by decide) hn.2.1
  refine pu_e10 ?_
  refine lo_S (fun i (r : Nat × pu_D) => r.1 = bx_ S s m w i ∧ ag_ (fun q _ => q = 65) D r.2) (fun r x => pu_h10_5 X (nu_i w) (nu_l r.1) x r.2 P) (2 ^ S 8 0 1) (0, D) ⟨rfl, ag_rf D⟩ (fun i r hi hI hk2 => ?_) (fun r hI => ?_)
  · obtain ⟨b, D'⟩ := r
    obtain ⟨hb, h1⟩ := hI
    dsimp only at hb h1
    have hC' := re_Z hC h1 (fun q j hz => by omega)
    have hc' := cp_ag hc h1 (fun q j hz => hz)
    have hle := bx_le (S := S) (s := s) (m := m) (w := w) (i := i)
    rw [← hb] at hle
    have hsucc := bx_succ (S := S) (s := s) (m := m) (w := w) (i := i)
    rw [← hb] at hsucc
    have hkeep : ∀ D2, ag_ (fun q _ => q = 65) D' D2 → ¬ ((b = 0 ∨ bt_ S s w i (b - 1) = true) ∧ ru_ S (fl_ S s m i) = 0 ∧ (w = 2 → fm_ S s m i = true)) → pu_h10_5 X (nu_i w) (nu_l b) (nu_i (i + 1)) D2 P := by
      intro D2 a2 hx
      rw [if_neg hx] at hsucc
      exact hk2 (b, D2) ⟨hsucc.symm, ag_tr h1 a2⟩
    have htake : ∀ D2, ag_ (fun q _ => q = 65) D' D2 → ((b = 0 ∨ bt_ S s w i (b - 1) = true) ∧ ru_ S (fl_ S s m i) = 0 ∧ (w = 2 → fm_ S s m i = true)) → pu_h10_5 X (nu_i w) (nu_i i) (nu_i (i + 1)) D2 P := by
      intro D2 a2 hx
      rw [if_pos hx] at hsucc
      exact hk2 (i + 1, D2) ⟨hsucc.symm, ag_tr h1 a2⟩
    have hrest : (b = 0 ∨ bt_ S s w i (b - 1) = true) → pu_I X 13 [.ref 56, .ref 1, .int (nu_i i)] D' (fun y3 D4 => if y3 = 0 then (pu_h10_5 X (nu_i w) (nu_l b) (nu_i (i + 1)) D4 P) else (if nu_i w = 2 then (pu_I X 14 [.ref 56, .int (nu_i i)] D4 (fun y7 D8 => if y7 = 0 then (pu_h10_5 X (nu_i w) (nu_l b) (nu_i (i + 1)) D8 P) else (pu_h10_5 X (nu_i w) (nu_i i) (nu_i (i + 1)) D8 P))) else (pu_h10_5 X (nu_i w) (nu_i i) (nu_i (i + 1)) D4 P))) := by
      intro hbt
      refine sp_13 hC' hW hc' (by omega) hs fun D2 a2 => ?_
      simp (disch := omega) only [nu_b0, nu_eqn]
      by_cases h0 : ru_ S (fl_ S s m i) = 0
      · rw [if_neg (by simpa using h0)]
        by_cases hw2 : w = 2
        · rw [if_pos hw2]
          refine sp_14 hW (cp_ag hc' a2 (fun q j hz => hz)) (by omega) hs fun D3 a3 => ?_
          simp only [nu_b0]
          by_cases hf : fm_ S s m i = true
          · rw [if_neg (by simpa using hf)]; exact htake D3 (ag_tr a2 a3) ⟨hbt, h0, fun _ => hf⟩
          · rw [if_pos hf]; exact hkeep D3 (ag_tr a2 a3) fun z => hf (z.2.2 hw2)
        · rw [if_neg hw2]; exact htake D2 a2 ⟨hbt, h0, fun z => absurd z hw2⟩
      · rw [if_pos h0]; exact hkeep D2 a2 fun z => h0 z.2.1
    refine pu_u10_5 ?_
    dsimp only
    simp (disch := omega) only [hc'.2.1, nu_sh, nu_lt, hi, if_true, nu_lm, nu_addn]
    by_cases hb0 : b = 0
    · rw [if_pos hb0]
      exact hrest (Or.inl hb0)
    · rw [if_neg hb0]
      have e := sp_11 (X := X) hW (w := w) hc' (a := i) (o := b - 1) (P := fun y10 D11 => if y10 = 0 then (pu_h10_5 X (nu_i w) (nu_l b) (nu_i (i + 1)) D11 P) else (pu_I X 13 [.ref 56, .ref 1, .int (nu_i i)] D11 (fun y13 D14 => if y13 = 0 then (pu_h10_5 X (nu_i w) (nu_l b) (nu_i (i + 1)) D14 P) else (if nu_i w = 2 then (pu_I X 14 [.ref 56, .int (nu_i i)] D14 (fun y17 D18 => if y17 = 0 then (pu_h10_5 X (nu_i w) (nu_l b) (nu_i (i + 1)) D18 P) else (pu_h10_5 X (nu_i w) (nu_i i) (nu_i (i + 1)) D18 P))) else (pu_h10_5 X (nu_i w) (nu_i i) (nu_i (i + 1)) D14 P))))) (by omega) (by omega) hw hs
      rw [← nu_lp hb0] at e
      refine e.mpr ?_
      simp only [nu_b0]
      by_cases hbt : bt_ S s w i (b - 1) = true
      · rw [if_neg (by simpa using hbt)]; exact hrest (Or.inr hbt)
      · rw [if_pos hbt]; exact hkeep D' (ag_rf D') fun z => z.1.elim hb0 hbt
  · obtain ⟨b, D'⟩ := r
    obtain ⟨hb, h1⟩ := hI
    dsimp only at hb h1
    subst hb
    have hc' := cp_ag hc h1 (fun q j hz => hz)
    refine pu_u10_5 ?_
    dsimp only
    simp (disch := omega) only [hc'.2.1, nu_sh, nu_lt, Nat.lt_irrefl, if_false]
    exact hk D' h1
theorem ba2_le {s m q t n : Nat} : ba2_ S s m q t n ≤ n := by
  induction n with
  | zero => exact Nat.le_refl _
  | succ n ih =>
    show (if t.testBit n = true then ba2_ S s m q t n else if ba2_ S s m q t n = 0 then n + 1 else if gv_ S (ba2_ S s m q t n - 1) s q m < gv_ S n s q m then n + 1 else ba2_ S s m q t n) ≤ n + 1
    split
    · omega
    · split
      · omega
      · split <;> omega
theorem ba2_succ {s m q t n : Nat} : ba2_ S s m q t (n + 1) = (if t.testBit n = true then ba2_ S s m q t n else if ba2_ S s m q t n = 0 then n + 1 else if gv_ S (ba2_ S s m q t n - 1) s q m < gv_ S n s q m then n + 1 else ba2_ S s m q t n) := rfl
theorem sp_18 (hW : wf_ S) {s m t q : Nat} {P : Int32 → pu_D → Prop} (hc : cp_ S s m D) (ht : t < 512) (hq : q < S 7 0 3 * 2) (hs : s < S 8 0 0) : pu_I X 18 [.ref 56, .int (nu_i t), .int (nu_i q)] D P = P (nu_l (bs2_ S s m q t)) D := by
  have hn := wf_n hW
  have hM := wf_m hW
  refine pu_I_of (pu_e18 ?_) P
  refine lo_ix (fun b x => pu_h18_5 X (nu_i t) (nu_i q) (nu_l b) x D _) (S 8 0 1) (ba2_ S s m q t) (fun i hi h => ?_) ?_
  · have hle := ba2_le (S := S) (s := s) (m := m) (q := q) (t := t) (n := i)
    have g1 := gv_le hW (p := i) (q := q) (m := m) hs
    have g2 := gv_le hW (p := ba2_ S s m q t i - 1) (q := q) (m := m) hs
    rw [ba2_succ] at h
    refine pu_u18_5 ?_
    simp (disch := omega) only [hc.2.1, nu_lt, hi, if_true, sp_142, nu_b0, nu_muln, nu_add, nu_in, nu_ix, (hc.2.2.2.1 q hq).2.2.2 i hi, nu_addn, nu_lm]
    by_cases hb : t.testBit i = true
    · rw [if_neg (by simpa using hb)]; rw [if_pos hb] at h; exact h
    · rw [if_pos hb]; rw [if_neg hb] at h
      by_cases h0 : ba2_ S s m q t i = 0
      · rw [if_pos h0]; rw [if_pos h0] at h; exact h
      · rw [if_neg h0]; rw [if_neg h0] at h
        rw [nu_lp h0]
        simp (disch := omega) only [nu_muln, nu_add, nu_in, nu_ix, (hc.2.2.2.1 q hq).2.2.2 (ba2_ S s m q t i - 1) (by omega), nu_lt]
        refine ⟨by omega, by omega, ?_⟩
        by_cases h3 : gv_ S (ba2_ S s m q t i - 1) s q m < gv_ S i s q m
        · rw [if_pos h3]; rw [if_pos h3] at h; exact h
        · rw [if_neg h3]; rw [if_neg h3, nu_lp h0] at h; exact h
  · refine pu_u18_5 ?_
    simp (disch := omega) only [hc.2.1, nu_lt, Nat.lt_irrefl, if_false]
    exact ⟨by trivial, by trivial⟩
end CH
