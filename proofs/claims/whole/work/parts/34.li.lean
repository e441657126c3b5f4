/-! WHAT MAY CHANGE; the class's lights. -/
/-- nothing but at Z has changed -/
def ag_ (Z : Nat → Nat → Prop) (D D' : pu_D) : Prop := (∀ q j, ¬ Z q j → D'.1 q j = D.1 q j) ∧ D'.2 = D.2
theorem ag_rf {Z : Nat → Nat → Prop} (D : pu_D) : ag_ Z D D := ⟨fun _ _ _ => rfl, rfl⟩
theorem ag_tr {Z : Nat → Nat → Prop} {D D' D2 : pu_D} (h : ag_ Z D D') (h2 : ag_ Z D' D2) : ag_ Z D D2 := ⟨fun q j hz => (h2.1 q j hz).trans (h.1 q j hz), h2.2.trans h.2⟩
theorem ag_mo {Z Z' : Nat → Nat → Prop} {D D' : pu_D} (h : ag_ Z D D') (hz : ∀ q j, Z q j → Z' q j) : ag_ Z' D D' := ⟨fun q j h2 => h.1 q j fun h3 => h2 (hz q j h3), h.2⟩
theorem wi_eq {D : pu_D} {q j : Nat} {y : Int32} : (pu_wi D q j y).1 q j = y := by simp [pu_wi, px_up, upd]
theorem wi_q {D : pu_D} {q j q' j' : Nat} {y : Int32} (h : ¬ q' = q) : (pu_wi D q j y).1 q' j' = D.1 q' j' := by simp [pu_wi, px_up, h]
theorem wi_j {D : pu_D} {q j j' : Nat} {y : Int32} (h : ¬ j' = j) : (pu_wi D q j y).1 q j' = D.1 q j' := by simp [pu_wi, px_up, upd, h]
theorem wi_if {D : pu_D} {q j q' j' : Nat} {y : Int32} : (pu_wi D q j y).1 q' j' = if q' = q ∧ j' = j then y else D.1 q' j' := by
  by_cases h : q' = q
  · subst h
    by_cases h2 : j' = j
    · subst h2; rw [if_pos ⟨rfl, rfl⟩, wi_eq]
    · rw [if_neg (fun z => h2 z.2), wi_j h2]
  · rw [if_neg (fun z => h z.1), wi_q h]
theorem wi_2 {D : pu_D} {q j : Nat} {y : Int32} : (pu_wi D q j y).2 = D.2 := rfl
theorem ag_wi {Z : Nat → Nat → Prop} {D D' : pu_D} {q j : Nat} {y : Int32} (h : ag_ Z D D') (hz : Z q j) : ag_ Z D (pu_wi D' q j y) :=
  ⟨fun q' j' h2 => by rw [wi_if, if_neg (fun z => h2 (by rw [z.1, z.2]; exact hz))]; exact h.1 q' j' h2, h.2⟩
theorem re_ag {S : Nat → Nat → Nat → Nat} {Z : Nat → Nat → Prop} {D D' : pu_D} (hC : re_C 1 S D) (h : ag_ Z D D') (hZ : ∀ q j, q ≤ 16 → ¬ Z q j) : re_C 1 S D' := by
  refine ⟨fun t ht => ⟨?_, ?_, fun i hi w hw => ?_⟩, fun j hj => ?_⟩
  · rw [h.1 _ _ (hZ _ _ (by omega))]; exact (hC.1 t ht).1
  · rw [h.1 _ _ (hZ _ _ (by omega))]; exact (hC.1 t ht).2.1
  · rw [h.1 _ _ (hZ _ _ (by omega))]; exact (hC.1 t ht).2.2 i hi w hw
  · rw [h.1 _ _ (hZ _ _ (by omega))]; exact hC.2 j hj
/-- a loop over states of any kind -/
theorem lo_S {σ : Type} (I : Nat → σ → Prop) (W : σ → Int32 → Prop) (n : Nat) (s0 : σ) (h0 : I 0 s0) (hs : ∀ i s, i < n → I i s → (∀ s', I (i + 1) s' → W s' (nu_i (i + 1))) → W s (nu_i i)) (he : ∀ s, I n s → W s (nu_i n)) : W s0 0 := by
  have key : ∀ k, k ≤ n → ∀ s, I (n - k) s → W s (nu_i (n - k)) := by
    intro k
    induction k with
    | zero => exact fun _ s h => he s h
    | succ k ih =>
      intro hk s h
      refine hs (n - (k + 1)) s (by omega) h fun s' h' => ?_
      have e : n - (k + 1) + 1 = n - k := by omega
      rw [e] at h' ⊢
      exact ih (by omega) s' h'
  have := key n (Nat.le_refl n) s0 (by rw [Nat.sub_self]; exact h0)
  rw [Nat.sub_self] at this
  exact this
theorem nar_b (p : Prop) [Decidable p] : vp_nar .boolean (nu_b p) = nu_b p := by
  by_cases h : p
  · rw [nu_bT h]; rfl
  · rw [nu_bF h]; rfl
/-- the pools and the points of a Lights; its light -/
def lp_ (S : Nat → Nat → Nat → Nat) (q0 : Nat) (D : pu_D) : Prop := D.1 q0 3 = nu_i (S 7 0 3 * 2) ∧ ∀ j, j < S 7 0 3 * 2 → D.1 (q0 + 1) j = nu_b (ip_ S j = true)
def ll_ (S : Nat → Nat → Nat → Nat) (q0 : Nat) (f : Nat → Nat) (D : pu_D) : Prop := ∀ j, j < S 7 0 3 * 2 → D.1 (q0 + 3) j = nu_i (f j) ∧ f j ≤ 1000000
/-- an answer: the first, or NONE -/
def an_ (k n : Nat) : Int32 := if k < n then nu_i k else -1
theorem an_m {k n : Nat} (hn : n < 2147483648) : (an_ k n = -1) = ¬ k < n := by
  unfold an_
  by_cases h : k < n
  · rw [if_pos h, nu_m1 (by omega)]; simp [h]
  · rw [if_neg h]; simp [h]
def k1_ (S : Nat → Nat → Nat → Nat) (f : Nat → Nat) : Nat := fi_ (fun j => decide (f j < S 7 0 0) && !ip_ S j) (S 7 0 3 * 2)
def k2_ (S : Nat → Nat → Nat → Nat) (f : Nat → Nat) : Nat := fi_ (fun j => decide (5 < f j) && ip_ S j) (S 7 0 3 * 2)
/-- the darkest: 0 none, j + 1; its light -/
def dk_ (S : Nat → Nat → Nat → Nat) (f : Nat → Nat) (n : Nat) : Nat × Nat := fo_ (fun j r => if ip_ S j = true then r else if r.1 = 0 then (j + 1, f j) else if f j < r.2 then (j + 1, f j) else r) n (0, 0)
def dd_ (S : Nat → Nat → Nat → Nat) (f : Nat → Nat) : Nat × Nat := dk_ S f (S 7 0 3 * 2)
def k3_ (S : Nat → Nat → Nat → Nat) (f : Nat → Nat) : Nat := fi_ (fun j => decide (S 7 0 1 * (dd_ S f).2 < f j) && !ip_ S j) (S 7 0 3 * 2)
/-- uneven: the darkest + 1, or 0 -/
def u3_ (S : Nat → Nat → Nat → Nat) (f : Nat → Nat) : Nat := if (dd_ S f).1 = 0 then 0 else if k3_ S f < S 7 0 3 * 2 then (dd_ S f).1 else 0
def k4_ (S : Nat → Nat → Nat → Nat) (f : Nat → Nat) : Nat := fi_ (fun i => decide (S 4 i 0 < S 7 0 3 * 2) && decide (S 4 i 1 < f (S 4 i 0))) (S 8 0 4)
def u4_ (S : Nat → Nat → Nat → Nat) (f : Nat → Nat) : Nat := if k4_ S f < S 8 0 4 then S 4 (k4_ S f) 0 + 1 else 0
def ru_ (S : Nat → Nat → Nat → Nat) (f : Nat → Nat) : Nat := if k1_ S f < S 7 0 3 * 2 then 1 else if k2_ S f < S 7 0 3 * 2 then 2 else if ¬ u3_ S f = 0 then 3 else if ¬ u4_ S f = 0 then 4 else 0
section LI
variable {X : px_X} {S : Nat → Nat → Nat → Nat} {D : pu_D}
theorem lq_ {q0 : Nat} (hq : q0 = 52 ∨ q0 = 62) : pu_cl q0 = 2 ∧ pu_rf q0 0 = q0 + 1 ∧ pu_rf q0 2 = q0 + 3 := by
  rcases hq with rfl | rfl <;> decide +kernel
theorem lp_ag {q0 : Nat} {Z : Nat → Nat → Prop} {D' : pu_D} (h : lp_ S q0 D) (ha : ag_ Z D D') (hZ : ∀ j, ¬ Z q0 j ∧ ¬ Z (q0 + 1) j) : lp_ S q0 D' := ⟨(ha.1 _ _ (hZ 3).1).trans h.1, fun j hj => (ha.1 _ _ (hZ j).2).trans (h.2 j hj)⟩
theorem sp_20 (hC : re_C 1 S D) (hW : wf_ S) {q0 : Nat} {P : pu_D → Prop} (hq : q0 = 52 ∨ q0 = 62) (h : ∀ D', ag_ (fun q _ => q = q0 ∨ q = q0 + 1) D D' → lp_ S q0 D' → P D') : pu_V X 20 [.ref q0, .ref 1] D P := by
  obtain ⟨hcl, hr0, hr2⟩ := lq_ hq
  have hM := wf_m hW
  obtain ⟨-, -, -, m3⟩ := re_m hC
  refine pu_e20 hcl ?_
  simp (disch := omega) only [m3, nu_muln, nu_nlt]
  rw [if_neg (by omega)]
  refine lo_S (fun i D' => ag_ (fun q _ => q = q0 ∨ q = q0 + 1) D D' ∧ D'.1 q0 3 = nu_i (S 7 0 3 * 2) ∧ ∀ j, j < i → D'.1 (q0 + 1) j = nu_b (ip_ S j = true)) (fun D' x => pu_h20_19 X q0 x D' P) (S 7 0 3 * 2) _ ?_ (fun i D' hi hI hk => ?_) (fun D' hI => ?_)
  · exact ⟨ag_wi (ag_rf D) (Or.inl rfl), wi_eq, fun j hj => absurd hj (Nat.not_lt_zero _)⟩
  · obtain ⟨h1, h2, h3⟩ := hI
    have hC' := re_ag hC h1 (fun q j hq2 => by omega)
    refine pu_u20_19 hcl ?_
    simp (disch := omega) only [h2, nu_lt, hi, if_true, sp_50 hC' hW, nu_in, nu_ix, nu_addn, nar_b, hr0]
    refine ⟨by omega, hk _ ⟨ag_wi h1 (Or.inr rfl), by rw [wi_q (by omega)]; exact h2, fun j hj => ?_⟩⟩
    by_cases hji : j = i
    · subst hji; exact wi_eq
    · rw [wi_j hji]; exact h3 j (by omega)
  · obtain ⟨h1, h2, h3⟩ := hI
    refine pu_u20_19 hcl ?_
    simp (disch := omega) only [h2, nu_lt, Nat.lt_irrefl, if_false]
    exact h D' h1 ⟨h2, h3⟩
theorem sp_26 (hC : re_C 1 S D) (hW : wf_ S) {q0 : Nat} {f : Nat → Nat} {P : Int32 → pu_D → Prop} (hq : q0 = 52 ∨ q0 = 62) (hp : lp_ S q0 D) (hl : ll_ S q0 f D) : pu_I X 26 [.ref q0, .ref 1] D P = P (an_ (k1_ S f) (S 7 0 3 * 2)) D := by
  obtain ⟨hcl, hr0, hr2⟩ := lq_ hq
  have hM := wf_m hW
  obtain ⟨m0, -, -, -⟩ := re_m hC
  refine pu_I_of (pu_e26 hcl ?_) P
  refine lo_fi (fun x => pu_h26_2 X q0 x D _) (S 7 0 3 * 2) (fun j => decide (f j < S 7 0 0) && !ip_ S j) (fun i hi hb h => ?_) ?_
  · have hv := hl i hi
    refine pu_u26_2 hcl ?_
    simp (disch := omega) only [hp.1, nu_lt, hi, if_true, nu_in, nu_ix, hr0, hr2, hv.1, m0, hp.2 i hi, nu_b0, nu_addn]
    refine ⟨by omega, ?_⟩
    by_cases h1 : f i < S 7 0 0
    · rw [if_pos h1]
      refine ⟨by omega, ?_⟩
      simp only [h1, decide_true, Bool.true_and, Bool.not_eq_false'] at hb
      rw [if_neg (by simpa using hb)]; exact h
    · rw [if_neg h1]; exact h
  · have hle := fi_le (fun j => decide (f j < S 7 0 0) && !ip_ S j) (S 7 0 3 * 2)
    have ha := (fi_at (fun j => decide (f j < S 7 0 0) && !ip_ S j) (S 7 0 3 * 2)).1
    rw [show fi_ _ (S 7 0 3 * 2) = k1_ S f from rfl] at hle ha ⊢
    refine pu_u26_2 hcl ?_
    simp (disch := omega) only [hp.1, nu_lt]
    by_cases h : k1_ S f < S 7 0 3 * 2
    · have hv := hl _ h
      have h2 := ha h
      simp only [Bool.and_eq_true, decide_eq_true_eq, Bool.not_eq_true'] at h2
      simp (disch := omega) only [h, if_true, nu_in, nu_ix, hr0, hr2, hv.1, m0, hp.2 _ h, nu_b0, nu_lt, h2.1]
      refine ⟨by omega, by omega, ?_⟩
      rw [if_pos (by rw [h2.2]; decide)]
      exact ⟨by unfold an_; rw [if_pos h], by trivial⟩
    · rw [if_neg h]
      exact ⟨by unfold an_; rw [if_neg h], by trivial⟩
theorem sp_27 (hC : re_C 1 S D) (hW : wf_ S) {q0 : Nat} {f : Nat → Nat} {P : Int32 → pu_D → Prop} (hq : q0 = 52 ∨ q0 = 62) (hp : lp_ S q0 D) (hl : ll_ S q0 f D) : pu_I X 27 [.ref q0] D P = P (an_ (k2_ S f) (S 7 0 3 * 2)) D := by
  obtain ⟨hcl, hr0, hr2⟩ := lq_ hq
  have hM := wf_m hW
  refine pu_I_of (pu_e27 hcl ?_) P
  refine lo_fi (fun x => pu_h27_2 X q0 x D _) (S 7 0 3 * 2) (fun j => decide (5 < f j) && ip_ S j) (fun i hi hb h => ?_) ?_
  · have hv := hl i hi
    refine pu_u27_2 hcl ?_
    simp (disch := omega) only [hp.1, nu_lt, nu_nlt, hi, if_true, nu_in, nu_ix, hr0, hr2, hv.1, hp.2 i hi, nu_b0, nu_addn]
    refine ⟨by omega, ?_⟩
    by_cases h1 : 5 < f i
    · rw [if_pos h1]
      refine ⟨by omega, ?_⟩
      simp only [h1, decide_true, Bool.true_and] at hb
      rw [if_pos (by rw [hb]; decide)]; exact h
    · rw [if_neg h1]; exact h
  · have hle := fi_le (fun j => decide (5 < f j) && ip_ S j) (S 7 0 3 * 2)
    have ha := (fi_at (fun j => decide (5 < f j) && ip_ S j) (S 7 0 3 * 2)).1
    rw [show fi_ _ (S 7 0 3 * 2) = k2_ S f from rfl] at hle ha ⊢
    refine pu_u27_2 hcl ?_
    simp (disch := omega) only [hp.1, nu_lt]
    by_cases h : k2_ S f < S 7 0 3 * 2
    · have hv := hl _ h
      have h2 := ha h
      simp only [Bool.and_eq_true, decide_eq_true_eq] at h2
      simp (disch := omega) only [h, if_true, nu_in, nu_ix, hr0, hr2, hv.1, hp.2 _ h, nu_b0, nu_nlt, h2.1]
      refine ⟨by omega, by omega, ?_⟩
      rw [if_neg (by simpa using h2.2)]
      exact ⟨by unfold an_; rw [if_pos h], by trivial⟩
    · rw [if_neg h]
      exact ⟨by unfold an_; rw [if_neg h], by trivial⟩
theorem dk_succ {f : Nat → Nat} {n : Nat} : dk_ S f (n + 1) = (if ip_ S n = true then dk_ S f n else if (dk_ S f n).1 = 0 then (n + 1, f n) else if f n < (dk_ S f n).2 then (n + 1, f n) else dk_ S f n) := rfl
theorem dk_le {f : Nat → Nat} {n : Nat} : (dk_ S f n).1 ≤ n ∧ (¬ (dk_ S f n).1 = 0 → (dk_ S f n).2 = f ((dk_ S f n).1 - 1)) ∧ ((dk_ S f n).1 = 0 → (dk_ S f n).2 = 0) := by
  induction n with
  | zero => exact ⟨Nat.le_refl _, fun h => absurd rfl h, fun _ => rfl⟩
  | succ n ih =>
    rw [dk_succ]
    split
    · exact ⟨by omega, ih.2⟩
    · split
      · exact ⟨Nat.le_refl _, fun _ => rfl, fun h => absurd h (Nat.succ_ne_zero _)⟩
      · split
        · exact ⟨Nat.le_refl _, fun _ => rfl, fun h => absurd h (Nat.succ_ne_zero _)⟩
        · exact ⟨by omega, ih.2⟩
theorem sp_30 (hW : wf_ S) {q0 : Nat} {f : Nat → Nat} {P : Int32 → pu_D → Prop} (hq : q0 = 52 ∨ q0 = 62) (hp : lp_ S q0 D) (hl : ll_ S q0 f D) : pu_I X 30 [.ref q0] D P = P (nu_l (dd_ S f).1) D := by
  obtain ⟨hcl, hr0, hr2⟩ := lq_ hq
  have hM := wf_m hW
  refine pu_I_of (pu_e30 hcl ?_) P
  refine lo_ix (fun (r : Nat × Nat) x => pu_h30_6 X q0 (nu_l r.1) (nu_i r.2) x D _) (S 7 0 3 * 2) (dk_ S f) (fun i hi h => ?_) ?_
  · have hv := hl i hi
    have hd := dk_le (S := S) (f := f) (n := i)
    have hd2 : (dk_ S f i).2 ≤ 1000000 := by
      by_cases h0 : (dk_ S f i).1 = 0
      · rw [hd.2.2 h0]; omega
      · rw [hd.2.1 h0]; exact (hl _ (by omega)).2
    rw [dk_succ] at h
    refine pu_u30_6 hcl ?_
    simp (disch := omega) only [hp.1, nu_lt, hi, if_true, nu_in, nu_ix, hr0, hr2, hv.1, hp.2 i hi, nu_b0, nu_addn, nu_lm]
    refine ⟨by omega, ?_⟩
    by_cases h1 : ip_ S i = true
    · rw [if_neg (by simpa using h1)]; rw [if_pos h1] at h; exact h
    · rw [if_pos h1]; rw [if_neg h1] at h
      by_cases h2 : (dk_ S f i).1 = 0
      · rw [if_pos h2]; rw [if_pos h2] at h; exact ⟨by omega, h⟩
      · rw [if_neg h2]; rw [if_neg h2] at h
        refine ⟨by omega, ?_⟩
        by_cases h3 : f i < (dk_ S f i).2
        · rw [if_pos h3]; rw [if_pos h3] at h; exact ⟨by omega, h⟩
        · rw [if_neg h3]; rw [if_neg h3] at h; exact h
  · refine pu_u30_6 hcl ?_
    simp (disch := omega) only [hp.1, nu_lt, Nat.lt_irrefl, if_false]
    exact ⟨by trivial, by trivial⟩
theorem dd_b (hW : wf_ S) {q0 : Nat} {f : Nat → Nat} (hl : ll_ S q0 f D) : (dd_ S f).1 ≤ S 7 0 3 * 2 ∧ (dd_ S f).2 ≤ 1000000 ∧ (¬ (dd_ S f).1 = 0 → (dd_ S f).2 = f ((dd_ S f).1 - 1)) := by
  have hd := dk_le (S := S) (f := f) (n := S 7 0 3 * 2)
  refine ⟨hd.1, ?_, hd.2.1⟩
  by_cases h0 : (dk_ S f (S 7 0 3 * 2)).1 = 0
  · unfold dd_; rw [hd.2.2 h0]; omega
  · unfold dd_; rw [hd.2.1 h0]; exact (hl _ (by omega)).2
theorem sp_28 (hC : re_C 1 S D) (hW : wf_ S) {q0 : Nat} {f : Nat → Nat} {P : Int32 → pu_D → Prop} (hq : q0 = 52 ∨ q0 = 62) (hp : lp_ S q0 D) (hl : ll_ S q0 f D) : pu_I X 28 [.ref q0, .ref 1] D P = P (nu_l (u3_ S f)) D := by
  obtain ⟨hcl, hr0, hr2⟩ := lq_ hq
  have hM := wf_m hW
  obtain ⟨-, m1, -, -⟩ := re_m hC
  obtain ⟨d1, d2, d3⟩ := dd_b hW hl
  refine pu_I_of (pu_e28 hcl ?_) P
  rw [sp_30 hW hq hp hl]
  unfold u3_
  by_cases h0 : (dd_ S f).1 = 0
  · rw [h0, nu_l0, if_pos (by decide), if_pos rfl]; exact ⟨by trivial, by trivial⟩
  · rw [nu_lp h0, if_neg h0]
    have hv := hl ((dd_ S f).1 - 1) (by omega)
    have hmul : S 7 0 1 * (dd_ S f).2 ≤ 99 * 1000000 := Nat.mul_le_mul hM.2.1.2 d2
    rw [← d3 h0] at hv
    simp (disch := omega) only [nu_lt0, if_false, nu_ltn, nu_in, nu_ix, hr2, hv.1, m1, nu_mul]
    rw [if_pos (show (dd_ S f).1 - 1 < 120 by omega)]
    refine ⟨by omega, ?_⟩
    refine lo_fi (fun x => pu_h28_34 X q0 (nu_i ((dd_ S f).1 - 1)) (nu_i (S 7 0 1 * (dd_ S f).2)) x D _) (S 7 0 3 * 2) (fun j => decide (S 7 0 1 * (dd_ S f).2 < f j) && !ip_ S j) (fun i hi hb h => ?_) ?_
    · have hv := hl i hi
      refine pu_u28_34 hcl ?_
      simp (disch := omega) only [hp.1, nu_lt, hi, if_true, nu_in, nu_ix, hr0, hr2, hv.1, hp.2 i hi, nu_b0, nu_addn]
      refine ⟨by omega, ?_⟩
      by_cases h1 : S 7 0 1 * (dd_ S f).2 < f i
      · rw [if_pos h1]
        refine ⟨by omega, ?_⟩
        simp only [h1, decide_true, Bool.true_and, Bool.not_eq_false'] at hb
        rw [if_neg (by simpa using hb)]; exact h
      · rw [if_neg h1]; exact h
    · have hle := fi_le (fun j => decide (S 7 0 1 * (dd_ S f).2 < f j) && !ip_ S j) (S 7 0 3 * 2)
      have ha := (fi_at (fun j => decide (S 7 0 1 * (dd_ S f).2 < f j) && !ip_ S j) (S 7 0 3 * 2)).1
      rw [show fi_ _ (S 7 0 3 * 2) = k3_ S f from rfl] at hle ha ⊢
      refine pu_u28_34 hcl ?_
      simp (disch := omega) only [hp.1, nu_lt]
      by_cases h : k3_ S f < S 7 0 3 * 2
      · have hv := hl _ h
        have h2 := ha h
        simp only [Bool.and_eq_true, decide_eq_true_eq, Bool.not_eq_true'] at h2
        have h22 : ip_ S (k3_ S f) = false := h2.2
        have h21 : S 7 0 1 * (dd_ S f).2 < f (k3_ S f) := h2.1
        simp (disch := omega) only [h, if_true, nu_in, nu_ix, hr0, hr2, hv.1, hp.2 _ h, nu_b0, nu_lt, h21]
        refine ⟨by omega, by omega, ?_⟩
        rw [if_pos (by rw [h22]; decide), nu_lp h0]
        exact ⟨by trivial, by trivial⟩
      · rw [if_neg h, if_neg h]
        exact ⟨by trivial, by trivial⟩
theorem u3_b (hW : wf_ S) {q0 : Nat} {f : Nat → Nat} (hl : ll_ S q0 f D) : u3_ S f ≤ 120 := by
  have hM := wf_m hW
  obtain ⟨d1, d2, d3⟩ := dd_b hW hl
  unfold u3_; split
  · omega
  · split <;> omega
theorem u4_b (hW : wf_ S) {f : Nat → Nat} : u4_ S f ≤ 120 := by
  have hM := wf_m hW
  unfold u4_; split
  · rename_i h
    have := wf_t hW 4 (by decide) (by decide) h
    omega
  · omega
theorem sp_29 (hC : re_C 1 S D) (hW : wf_ S) {q0 : Nat} {f : Nat → Nat} {P : Int32 → pu_D → Prop} (hq : q0 = 52 ∨ q0 = 62) (hp : lp_ S q0 D) (hl : ll_ S q0 f D) : pu_I X 29 [.ref q0, .ref 1] D P = P (nu_l (u4_ S f)) D := by
  obtain ⟨hcl, hr0, hr2⟩ := lq_ hq
  have hM := wf_m hW
  have hn := wf_n hW
  obtain ⟨-, -, -, -, c11, -, -⟩ := re_n hC
  refine pu_I_of (pu_e29 hcl ?_) P
  refine lo_fi (fun x => pu_h29_2 X q0 x D _) (S 8 0 4) (fun i => decide (S 4 i 0 < S 7 0 3 * 2) && decide (S 4 i 1 < f (S 4 i 0))) (fun i hi hb h => ?_) ?_
  · have hv := wf_t hW 4 (by decide) (by decide) hi
    have hw := wf_w hW hi
    refine pu_u29_2 hcl ?_
    simp (disch := omega) only [c11, nu_lt, hi, if_true, sp_n11_0 hC hW hi, sp_n11_1 hC hW hi, nu_lt0, if_false, hp.1, nu_in, nu_ix, nu_addn, hr2]
    by_cases h1 : S 4 i 0 < S 7 0 3 * 2
    · rw [if_pos h1]
      refine ⟨by omega, ?_⟩
      have hv2 := hl _ h1
      simp only [h1, decide_true, Bool.true_and, decide_eq_false_iff_not] at hb
      rw [hv2.1]
      simp (disch := omega) only [nu_lt]
      rw [if_neg hb]; exact h
    · rw [if_neg h1]; exact h
  · have hle := fi_le (fun i => decide (S 4 i 0 < S 7 0 3 * 2) && decide (S 4 i 1 < f (S 4 i 0))) (S 8 0 4)
    have ha := (fi_at (fun i => decide (S 4 i 0 < S 7 0 3 * 2) && decide (S 4 i 1 < f (S 4 i 0))) (S 8 0 4)).1
    rw [show fi_ _ (S 8 0 4) = k4_ S f from rfl] at hle ha ⊢
    refine pu_u29_2 hcl ?_
    simp (disch := omega) only [c11, nu_lt]
    unfold u4_
    by_cases h : k4_ S f < S 8 0 4
    · have h2 := ha h
      simp only [Bool.and_eq_true, decide_eq_true_eq] at h2
      have hv := wf_t hW 4 (by decide) (by decide) h
      have hw := wf_w hW h
      have hv2 := hl _ h2.1
      rw [if_pos h, if_pos h, sp_n11_0 hC hW h]
      simp (disch := omega) only [nu_lt0, if_false, hp.1, nu_lt, nu_in, nu_ix, hr2]
      rw [if_pos h2.1, sp_n11_1 hC hW h, hv2.1]
      refine ⟨by omega, ?_⟩
      simp (disch := omega) only [nu_lt]
      rw [if_pos h2.2]
      exact ⟨by trivial, by trivial⟩
    · rw [if_neg h, if_neg h]; exact ⟨by trivial, by trivial⟩
theorem nu_l1 {a : Nat} (ha : a < 2147483648) : (nu_l a = -1) = (a = 0) := nu_lm ha
theorem sp_23 (hC : re_C 1 S D) (hW : wf_ S) {q0 : Nat} {f : Nat → Nat} {P : Int32 → pu_D → Prop} (hq : q0 = 52 ∨ q0 = 62) (hp : lp_ S q0 D) (hl : ll_ S q0 f D) : pu_I X 23 [.ref q0, .ref 1] D P = P (nu_i (ru_ S f)) D := by
  obtain ⟨hcl, hr0, hr2⟩ := lq_ hq
  have hM := wf_m hW
  have b3 := u3_b hW hl
  have b4 := u4_b hW (f := f)
  refine pu_I_of (pu_e23 hcl ?_) P
  simp (disch := omega) only [sp_26 hC hW hq hp hl, sp_27 hC hW hq hp hl, sp_28 hC hW hq hp hl, sp_29 hC hW hq hp hl, an_m, nu_lm]
  unfold ru_
  by_cases h1 : k1_ S f < S 7 0 3 * 2
  · rw [if_pos h1, if_neg (fun z => z h1)]; exact ⟨by trivial, by trivial⟩
  · rw [if_neg h1, if_pos h1]
    by_cases h2 : k2_ S f < S 7 0 3 * 2
    · rw [if_pos h2, if_neg (fun z => z h2)]; exact ⟨by trivial, by trivial⟩
    · rw [if_neg h2, if_pos h2]
      by_cases h3 : u3_ S f = 0
      · rw [if_pos h3, if_neg (show ¬ ¬ u3_ S f = 0 from fun z => z h3)]
        by_cases h4 : u4_ S f = 0
        · rw [if_pos h4, if_neg (show ¬ ¬ u4_ S f = 0 from fun z => z h4)]; exact ⟨by trivial, by trivial⟩
        · rw [if_neg h4, if_pos h4]; exact ⟨by trivial, by trivial⟩
      · rw [if_neg h3, if_pos h3]; exact ⟨by trivial, by trivial⟩
/-- the first point at which a rule is broken -/
def pa_ (S : Nat → Nat → Nat → Nat) (f : Nat → Nat) : Int32 := if ru_ S f = 1 then nu_i (k1_ S f) else if ru_ S f = 2 then nu_i (k2_ S f) else if ru_ S f = 3 then nu_l (u3_ S f) else if ru_ S f = 4 then nu_l (u4_ S f) else -1
theorem ru_le {f : Nat → Nat} : ru_ S f ≤ 4 := by
  unfold ru_; split
  · omega
  · split
    · omega
    · split
      · omega
      · split <;> omega
theorem sp_24 (hC : re_C 1 S D) (hW : wf_ S) {f : Nat → Nat} {P : Int32 → pu_D → Prop} (hp : lp_ S 52 D) (hl : ll_ S 52 f D) : pu_I X 24 [.ref 52, .ref 1, .int (nu_i (ru_ S f))] D P = P (pa_ S f) D := by
  have hr := ru_le (S := S) (f := f)
  refine pu_I_of (pu_e24 ?_) P
  simp (disch := omega) only [sp_26 hC hW (Or.inl rfl) hp hl, sp_27 hC hW (Or.inl rfl) hp hl, sp_28 hC hW (Or.inl rfl) hp hl, sp_29 hC hW (Or.inl rfl) hp hl, nu_eqn]
  unfold pa_
  by_cases h1 : ru_ S f = 1
  · rw [if_pos h1, if_pos h1]
    refine ⟨?_, by trivial⟩
    unfold ru_ at h1
    unfold an_
    by_cases h2 : k1_ S f < S 7 0 3 * 2
    · rw [if_pos h2]
    · rw [if_neg h2] at h1
      exfalso
      split at h1
      · omega
      · split at h1
        · omega
        · split at h1 <;> omega
  · rw [if_neg h1, if_neg h1]
    by_cases h2 : ru_ S f = 2
    · rw [if_pos h2, if_pos h2]
      refine ⟨?_, by trivial⟩
      unfold ru_ at h2
      unfold an_
      by_cases h3 : k2_ S f < S 7 0 3 * 2
      · rw [if_pos h3]
      · exfalso
        (repeat' split at h2) <;> omega
    · rw [if_neg h2, if_neg h2]
      by_cases h3 : ru_ S f = 3
      · rw [if_pos h3, if_pos h3]; exact ⟨by trivial, by trivial⟩
      · rw [if_neg h3, if_neg h3]
        by_cases h4 : ru_ S f = 4
        · rw [if_pos h4, if_pos h4]; exact ⟨by trivial, by trivial⟩
        · rw [if_neg h4, if_neg h4]; exact ⟨by trivial, by trivial⟩
theorem sp_25 (hW : wf_ S) {f : Nat → Nat} {P : Int32 → pu_D → Prop} (hp : lp_ S 52 D) (hl : ll_ S 52 f D) : pu_I X 25 [.ref 52] D P = P (if (dd_ S f).1 = 0 then -1 else nu_i (dd_ S f).2) D := by
  have hM := wf_m hW
  obtain ⟨d1, d2, d3⟩ := dd_b hW hl
  refine pu_I_of (pu_e25 ?_) P
  rw [sp_30 hW (Or.inl rfl) hp hl]
  by_cases h0 : (dd_ S f).1 = 0
  · rw [h0, nu_l0, if_pos (by decide), if_pos rfl]; exact ⟨by trivial, by trivial⟩
  · rw [nu_lp h0, if_neg h0]
    have hv := hl ((dd_ S f).1 - 1) (by omega)
    rw [← d3 h0] at hv
    simp (disch := omega) only [nu_lt0, if_false, nu_ltn, nu_in, nu_ix]
    rw [if_pos (show (dd_ S f).1 - 1 < 120 by omega)]
    exact ⟨by omega, hv.1, by trivial⟩
theorem re_Z {Z : Nat → Nat → Prop} {D' : pu_D} (hC : re_C 1 S D) (h : ag_ Z D D') (hZ : ∀ q j, Z q j → 50 ≤ q) : re_C 1 S D' := re_ag hC h fun q j hq hz => by have := hZ q j hz; omega
/-- shine -/
theorem sp_21 (hC : re_C 1 S D) (hW : wf_ S) {set m : Nat} {h : Bool} {P : pu_D → Prop} (hs : sl_ S set) (hm : m < 12) (hk : ∀ D', ag_ (fun q _ => q = 52 ∨ q = 53 ∨ q = 54) D D' → lp_ S 52 D' → (∀ j, j < S 7 0 3 * 2 → D'.1 54 j = nu_i (li_ S set h j m)) → P D') : pu_V X 21 [.ref 52, .ref 1, .int (nu_i set), .int (nu_b (h = true)), .int (nu_i m)] D P := by
  have hM := wf_m hW
  refine pu_e21 ?_
  refine sp_20 hC hW (Or.inl rfl) fun D1 a1 p1 => ?_
  refine lo_S (fun i D' => ag_ (fun q _ => q = 52 ∨ q = 53 ∨ q = 54) D D' ∧ lp_ S 52 D' ∧ ∀ j, j < i → D'.1 54 j = nu_i (li_ S set h j m)) (fun D' x => pu_h21_8 X (nu_i set) (nu_b (h = true)) (nu_i m) x D' P) (S 7 0 3 * 2) D1 ?_ (fun i D' hi hI hk2 => ?_) (fun D' hI => ?_)
  · exact ⟨ag_mo a1 (fun q j hz => by omega), p1, fun j hj => absurd hj (Nat.not_lt_zero _)⟩
  · obtain ⟨h1, h2, h3⟩ := hI
    have hC' := re_Z hC h1 (fun q j hz => by omega)
    refine pu_u21_8 ?_
    simp (disch := omega) only [h2.1, nu_lt, hi, if_true, sp_64 hC' hW hs (q := i) (by omega) hm, nu_in, nu_ix, nu_addn]
    refine ⟨by omega, hk2 _ ⟨ag_wi h1 (by omega), lp_ag h2 (ag_wi (Z := fun q _ => q = 54) (ag_rf D') rfl) (fun j => by omega), fun j hj => ?_⟩⟩
    by_cases hji : j = i
    · subst hji; exact wi_eq
    · rw [wi_j hji]; exact h3 j (by omega)
  · obtain ⟨h1, h2, h3⟩ := hI
    refine pu_u21_8 ?_
    simp (disch := omega) only [h2.1, nu_lt, Nat.lt_irrefl, if_false]
    exact hk D' h1 h2 h3
theorem sp_22 (hC : re_C 1 S D) (hW : wf_ S) {set m hh : Nat} {h : Bool} {P : pu_D → Prop} (hs : sl_ S set) (hh2 : hh < 12) (hp : lp_ S 52 D) (h54 : ∀ j, j < S 7 0 3 * 2 → D.1 54 j = nu_i (li_ S set h j m)) (hk : ∀ D', ag_ (fun q _ => q = 55) D D' → lp_ S 52 D' → ll_ S 52 (fun j => li_ S set h j m + sh_ S j hh) D' → P D') : pu_V X 22 [.ref 52, .ref 1, .int (nu_i hh)] D P := by
  have hM := wf_m hW
  refine pu_e22 ?_
  refine lo_S (fun i D' => ag_ (fun q _ => q = 55) D D' ∧ ∀ j, j < i → D'.1 55 j = nu_i (li_ S set h j m + sh_ S j hh)) (fun D' x => pu_h22_2 X (nu_i hh) x D' P) (S 7 0 3 * 2) D ?_ (fun i D' hi hI hk2 => ?_) (fun D' hI => ?_)
  · exact ⟨ag_rf D, fun j hj => absurd hj (Nat.not_lt_zero _)⟩
  · obtain ⟨h1, h3⟩ := hI
    have hC' := re_Z hC h1 (fun q j hz => by omega)
    have e1 := (h1.1 52 3 (by omega)).trans hp.1
    have e2 := (h1.1 54 i (by omega)).trans (h54 i hi)
    refine pu_u22_2 ?_
    simp (disch := omega) only [e1, nu_lt, hi, if_true, sp_68 hC' hW (q := i) (by omega) hh2, nu_in, nu_ix, nu_addn, e2, nu_add]
    refine ⟨by omega, by omega, hk2 _ ⟨ag_wi h1 rfl, fun j hj => ?_⟩⟩
    by_cases hji : j = i
    · subst hji; exact wi_eq
    · rw [wi_j hji]; exact h3 j (by omega)
  · obtain ⟨h1, h3⟩ := hI
    have e1 := (h1.1 52 3 (by omega)).trans hp.1
    refine pu_u22_2 ?_
    simp (disch := omega) only [e1, nu_lt, Nat.lt_irrefl, if_false]
    refine hk D' h1 (lp_ag hp h1 (fun j => by omega)) fun j hj => ⟨h3 j hj, ?_⟩
    have b1 := li_le hW (set := set) (h := h) (q := j) (m := m) hs.2
    have b2 := sh_le hW (q := j) (h := hh)
    show li_ S set h j m + sh_ S j hh ≤ 1000000
    omega
end LI
