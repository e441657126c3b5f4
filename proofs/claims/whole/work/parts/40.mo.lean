/-! THE REFERENCE'S CHOICE. -/
def zs_ (q j : Nat) : Prop := q = 113 ∨ q = 114 ∨ q = 115 ∨ (q = 85 ∧ j = 45)
theorem zs_m : zm_ zs_ := fun q j h => by unfold zs_ at h; omega
set_option maxRecDepth 100000 in
theorem pc_B : (List.range 512).all (fun m => decide (m = 0) || (decide (pc_ (m &&& (m - 1)) + 1 = pc_ m) && decide (m &&& (m - 1) < m))) = true := by decide +kernel
section MO
variable {X : px_X} {S : Nat → Nat → Nat → Nat} {D : pu_D}
theorem mp_165L {P : Int32 → pu_D → Prop} : ∀ (k m c : Nat), m < k → m < 512 → P (nu_i (c + pc_ m)) D → pu_h165_4 X (nu_i c) (nu_i m) D P
  | 0, _, _, h, _, _ => absurd h (Nat.not_lt_zero _)
  | k + 1, m, c, h, hm, hP => by
    refine pu_u165_4 ?_
    simp (disch := omega) only [nu_eqn, nu_addn]
    by_cases h0 : m = 0
    · subst h0
      rw [if_pos rfl]
      exact hP
    · rw [if_neg h0, show nu_i m - 1 = nu_i (m - 1) from nu_sub (b := 1) (by omega), nu_and]
      have hb := List.all_eq_true.mp pc_B m (List.mem_range.mpr hm)
      simp only [Bool.or_eq_true, Bool.and_eq_true, decide_eq_true_eq] at hb
      obtain ⟨h1, h2⟩ := hb.resolve_left h0
      exact mp_165L k _ _ (by omega) (by omega) (by rw [show c + 1 + pc_ (m &&& (m - 1)) = c + pc_ m by omega]; exact hP)
theorem mp_165 {m : Nat} {P : Int32 → pu_D → Prop} (hm : m < 512) : pu_I X 165 [.ref 85, .int (nu_i m)] D P = P (nu_i (pc_ m)) D := by
  refine pu_I_of (pu_e165 ?_) P
  exact mp_165L (m + 1) m 0 (by omega) hm ⟨by rw [Nat.zero_add], rfl⟩
theorem mp_215 (hM : re_M S D) (hW : wf_ S) {set s : Nat} {P : Int32 → pu_D → Prop} (hset : set < 512) (hs : s < S 8 0 0) : pu_I X 215 [.ref 85, .int (nu_i set), .int (nu_i s)] D P = P (nu_i (co_ S set s)) D := by
  have hn := wf_n hW
  obtain ⟨-, c5, -⟩ := rm_n hM
  refine pu_I_of (pu_e215 ?_) P
  refine lo_ix (fun a x => pu_h215_5 X (nu_i set) (nu_i s) (nu_i a) x D _) (S 8 0 1) (su_ (fun p => if set.testBit p = true then S 0 s 2 + S 1 p 1 else 0)) (fun i hi h => ?_) ?_
  · refine pu_u215_5 ?_
    simp (disch := omega) only [c5, nu_lt, hi, if_true, nu_inS, nu_b1, nu_in, nu_ix, mc_89 hM, mc_92 hM, nu_add, nu_addn]
    by_cases hb : set.testBit i = true
    · rw [if_pos hb]
      simp only [su_, hb, if_true] at h
      exact ⟨by omega, by omega, h⟩
    · rw [if_neg hb]
      simp only [su_, hb, if_false, Nat.add_zero, Bool.false_eq_true] at h
      exact h
  · refine pu_u215_5 ?_
    simp (disch := omega) only [c5, nu_lt, Nat.lt_irrefl, if_false]
    exact ⟨by trivial, by trivial⟩
theorem mp_217 (hM : re_M S D) (hW : wf_ S) {s m : Nat} {P : pu_D → Prop} (hs : s < S 8 0 0) (hm : m < 12) (hP : ∀ D', ag_ zs_ D D' → sn_ S s m D' → P D') : pu_V X 217 [.ref 85, .int (nu_i s), .int (nu_i m)] D P := by
  have hn := wf_n hW
  have hMM := wf_m hW
  refine pu_e217 ?_
  refine lo_S (fun i D' => ag_ zs_ D D' ∧ ∀ q, q < i → (∀ p, p < S 8 0 1 → D'.1 114 (120 * p + q) = nu_i (gv_ S p s q m)) ∧ D'.1 115 q = nu_i (sh_ S q 0)) (fun D' x => pu_h217_2 X (nu_i s) (nu_i m) x D' P) (S 7 0 3 * 2) D ⟨ag_rf D, fun j hj => absurd hj (Nat.not_lt_zero _)⟩ (fun i D' hi hI hk2 => ?_) (fun D' hI => ?_)
  · obtain ⟨h1, h3⟩ := hI
    have hM' := rm_ag hM h1 zs_m
    obtain ⟨-, -, -, m3⟩ := rm_m hM'
    refine pu_u217_2 ?_
    simp (disch := omega) only [m3, nu_nmul, Nat.mul_comm 2, nu_lt, hi, if_true]
    refine lo_S (fun k D2 => ag_ (fun q j => q = 114 ∧ j % 120 = i) D' D2 ∧ ∀ p, p < k → D2.1 114 (120 * p + i) = nu_i (gv_ S p s i m)) (fun D2 x => pu_h217_15 X (nu_i s) (nu_i m) (nu_i i) x D2 P) (S 8 0 1) D' ⟨ag_rf D', fun p hp => absurd hp (Nat.not_lt_zero _)⟩ (fun k D2 hk1 hI hk3 => ?_) (fun D2 hI => ?_)
    · obtain ⟨g1, g2⟩ := hI
      have hM2 := rm_ag hM' (ag_mo (Z' := zs_) g1 (fun q j hz => Or.inr (Or.inl hz.1))) zs_m
      obtain ⟨-, c5, -⟩ := rm_n hM2
      refine pu_u217_15 ?_
      simp (disch := omega) only [c5, nu_lt, hk1, if_true, mp_201 hM2 hW hk1 hs (q := i) (by omega) hm, nu_nmul, nu_add, nu_in, nu_ix, nu_addn]
      refine ⟨by omega, hk3 _ ⟨ag_wi g1 ⟨rfl, by omega⟩, fun p hp => ?_⟩⟩
      by_cases hpk : p = k
      · subst hpk; exact wi_eq
      · rw [wi_j (by omega)]; exact g2 p (by omega)
    · obtain ⟨g1, g2⟩ := hI
      have hM2 := rm_ag hM' (ag_mo (Z' := zs_) g1 (fun q j hz => Or.inr (Or.inl hz.1))) zs_m
      obtain ⟨-, c5, -⟩ := rm_n hM2
      have e203 := mp_203 (X := X) hM2 hW (q := i) (hh := 0) (P := fun y3 D4 => i < 120 ∧ pu_h217_2 X (nu_i s) (nu_i m) (nu_i (i + 1)) (pu_wi D4 115 i y3) P) (by omega) (by omega)
      refine pu_u217_15 ?_
      simp (disch := omega) only [c5, nu_lt, Nat.lt_irrefl, if_false, nu_in, nu_ix, nu_addn]
      refine e203.mpr ⟨by omega, hk2 _ ⟨ag_wi (ag_tr h1 (ag_mo g1 fun q j hz => Or.inr (Or.inl hz.1))) (Or.inr (Or.inr (Or.inl rfl))), fun q hq => ?_⟩⟩
      by_cases hqi : q = i
      · subst hqi
        exact ⟨fun p hp => by rw [wi_q (by omega)]; exact g2 p hp, wi_eq⟩
      · obtain ⟨b1, b2⟩ := h3 q (by omega)
        exact ⟨fun p hp => by rw [wi_q (by omega), g1.1 _ _ (by omega)]; exact b1 p hp, by rw [wi_j hqi, g1.1 _ _ (by omega)]; exact b2⟩
  · obtain ⟨h1, h3⟩ := hI
    have hM' := rm_ag hM h1 zs_m
    obtain ⟨-, -, -, m3⟩ := rm_m hM'
    refine pu_u217_2 ?_
    simp (disch := omega) only [m3, nu_nmul, Nat.mul_comm 2, nu_lt, Nat.lt_irrefl, if_false]
    exact hP D' h1 h3
theorem sn_ag {s m : Nat} {D' : pu_D} (h : sn_ S s m D) (ha : ag_ zj_ D D') : sn_ S s m D' := by
  intro q hq
  obtain ⟨h1, h2⟩ := h q hq
  exact ⟨fun p hp => (ha.1 _ _ (by unfold zj_; omega)).trans (h1 p hp), (ha.1 _ _ (by unfold zj_; omega)).trans h2⟩
theorem mp_218 (hM : re_M S D) (hW : wf_ S) {s m set : Nat} {P : Int32 → pu_D → Prop} (hc : sn_ S s m D) (hs : s < S 8 0 0) (hset : set < 512) (hP : ∀ D', ag_ zj_ D D' → P (nu_i (ru_ S (fl_ S s m set))) D') : pu_I X 218 [.ref 85, .int (nu_i set)] D P := by
  have hn := wf_n hW
  have hMM := wf_m hW
  refine pu_e218 ?_
  refine lo_S (fun i D' => ag_ zj_ D D' ∧ ∀ j, j < i → D'.1 113 j = nu_i (fl_ S s m set j)) (fun D' x => pu_h218_2 X (nu_i set) x D' P) (S 7 0 3 * 2) D ⟨ag_rf D, fun j hj => absurd hj (Nat.not_lt_zero _)⟩ (fun i D' hi hI hk2 => ?_) (fun D' hI => ?_)
  · obtain ⟨h1, h3⟩ := hI
    have hM' := rm_ag hM h1 zj_m
    have hc' := sn_ag hc h1
    obtain ⟨-, -, -, m3⟩ := rm_m hM'
    refine pu_u218_2 ?_
    simp (disch := omega) only [m3, nu_nmul, Nat.mul_comm 2, nu_lt, hi, if_true, nu_in, nu_ix, (hc' i hi).2]
    refine ⟨by omega, by omega, ?_⟩
    refine lo_S (fun k D2 => ag_ (fun q j => q = 113 ∧ j = i) D' D2 ∧ D2.1 113 i = nu_i (sh_ S i 0 + su_ (fun p => if set.testBit p = true then gv_ S p s i m else 0) k)) (fun D2 x => pu_h218_26 X (nu_i set) (nu_i i) x D2 P) (S 8 0 1) _ ⟨ag_wi (ag_rf D') ⟨rfl, rfl⟩, wi_eq⟩ (fun k D2 hk1 hI hk3 => ?_) (fun D2 hI => ?_)
    · obtain ⟨g1, g2⟩ := hI
      have hM2 := rm_ag hM' (ag_mo (Z' := zj_) g1 (fun q j hz => Or.inl hz.1)) zj_m
      have hc2 := sn_ag hc' (ag_mo (Z' := zj_) g1 (fun q j hz => Or.inl hz.1))
      obtain ⟨-, c5, -⟩ := rm_n hM2
      refine pu_u218_26 ?_
      simp (disch := omega) only [c5, nu_lt, hk1, if_true, nu_inS, nu_b1, nu_in, nu_ix, nu_nmul, nu_add, g2, (hc2 i hi).1 k hk1, nu_addn]
      by_cases hb : set.testBit k = true
      · rw [if_pos hb]
        refine ⟨by omega, by omega, by omega, hk3 _ ⟨ag_wi g1 ⟨rfl, rfl⟩, ?_⟩⟩
        rw [wi_eq]
        simp only [su_, hb, if_true, Nat.add_assoc]
      · rw [if_neg hb]
        refine hk3 D2 ⟨g1, ?_⟩
        simp only [su_, hb, if_false, Nat.add_zero, Bool.false_eq_true]
        exact g2
    · obtain ⟨g1, g2⟩ := hI
      have hM2 := rm_ag hM' (ag_mo (Z' := zj_) g1 (fun q j hz => Or.inl hz.1)) zj_m
      obtain ⟨-, c5, -⟩ := rm_n hM2
      refine pu_u218_26 ?_
      simp (disch := omega) only [c5, nu_lt, Nat.lt_irrefl, if_false, nu_addn]
      refine hk2 D2 ⟨ag_tr h1 (ag_mo g1 fun q j hz => Or.inl hz.1), fun j hj => ?_⟩
      by_cases hji : j = i
      · subst hji; exact g2
      · rw [g1.1 _ _ (by omega)]; exact h3 j (by omega)
  · obtain ⟨h1, h3⟩ := hI
    have hM' := rm_ag hM h1 zj_m
    obtain ⟨-, -, -, m3⟩ := rm_m hM'
    refine pu_u218_2 ?_
    simp (disch := omega) only [m3, nu_nmul, Nat.mul_comm 2, nu_lt, Nat.lt_irrefl, if_false]
    refine mp_211 hM' hW (f := fl_ S s m set) (fun j hj => ⟨h3 j hj, by have := fl_le hW (s := s) (m := m) (set := set) (j := j) hs; omega⟩) fun D2 a2 _ => ?_
    exact hP D2 (ag_tr h1 (ag_mo a2 fun q j hz => Or.inr hz))
theorem ru_12 {f : Nat → Nat} : (ru_ S f = 1 ∨ ru_ S f = 2) ↔ ¬ (¬ k1_ S f < S 7 0 3 * 2 ∧ ¬ k2_ S f < S 7 0 3 * 2) := by
  unfold ru_
  by_cases h1 : k1_ S f < S 7 0 3 * 2
  · rw [if_pos h1]; simp [h1]
  · rw [if_neg h1]
    by_cases h2 : k2_ S f < S 7 0 3 * 2
    · rw [if_pos h2]; simp [h2]
    · rw [if_neg h2]
      constructor
      · intro h; (repeat' split at h) <;> omega
      · intro h; exact absurd ⟨h1, h2⟩ h
theorem be_ru {s m set : Nat} : be_ S s m set = false ↔ (ru_ S (fl_ S s m set) = 1 ∨ ru_ S (fl_ S s m set) = 2) := by
  rw [ru_12]
  unfold be_
  by_cases h1 : k1_ S (fl_ S s m set) < S 7 0 3 * 2 <;> by_cases h2 : k2_ S (fl_ S s m set) < S 7 0 3 * 2 <;> simp [h1, h2]
theorem mp_219 (hM : re_M S D) (hW : wf_ S) {s m set : Nat} {P : Int32 → pu_D → Prop} (hc : sn_ S s m D) (hs : s < S 8 0 0) (hset : set < 512) (hk : ∀ D', ag_ zj_ D D' → P (nu_b (fm_ S s m set = true)) D') : pu_I X 219 [.ref 85, .int (nu_i set)] D P := by
  have hn := wf_n hW
  refine pu_e219 ?_
  refine lo_S (fun i D' => ag_ zj_ D D' ∧ ∀ p, p < i → (set.testBit p && !be_ S s m (wo_ set p)) = false) (fun D' x => pu_h219_2 X (nu_i set) x D' P) (S 8 0 1) D ⟨ag_rf D, fun j hj => absurd hj (Nat.not_lt_zero _)⟩ (fun i D' hi hI hk2 => ?_) (fun D' hI => ?_)
  · obtain ⟨h1, h2⟩ := hI
    have hM' := rm_ag hM h1 zj_m
    have hc' := sn_ag hc h1
    obtain ⟨-, c5, -⟩ := rm_n hM'
    refine pu_u219_2 ?_
    simp (disch := omega) only [c5, nu_lt, hi, if_true, nu_inS, nu_b0, nu_noS, nu_addn]
    by_cases hb : set.testBit i = true
    · rw [if_neg (by simpa using hb)]
      change pu_I X 218 [.ref 85, .int (nu_i (wo_ set i))] D' _
      refine mp_218 hM' hW hc' hs (wo_lt hset) fun D2 a2 => ?_
      have hr := ru_le (S := S) (f := fl_ S s m (wo_ set i))
      simp (disch := omega) only [nu_eqn]
      have hbad : be_ S s m (wo_ set i) = false → P 0 D2 := by
        intro hbe
        have hf : ¬ fm_ S s m set = true := by
          have e : fi_ (fun p => set.testBit p && !be_ S s m (wo_ set p)) (S 8 0 1) = i := fi_eq (Nat.le_of_lt hi) h2 (fun _ => by simp [hb, hbe])
          unfold fm_
          rw [e]; simp [hi]
        have := hk D2 (ag_tr h1 a2)
        rw [nu_bF hf] at this
        exact this
      by_cases e1 : ru_ S (fl_ S s m (wo_ set i)) = 1
      · rw [if_pos e1]; exact hbad (be_ru.mpr (Or.inl e1))
      · rw [if_neg e1]
        by_cases e2 : ru_ S (fl_ S s m (wo_ set i)) = 2
        · rw [if_pos e2]; exact hbad (be_ru.mpr (Or.inr e2))
        · rw [if_neg e2]
          have hbe : be_ S s m (wo_ set i) = true := by
            rw [← Bool.not_eq_false]; exact fun z => (be_ru.mp z).elim e1 e2
          refine hk2 D2 ⟨ag_tr h1 a2, fun p hp => ?_⟩
          by_cases hpi : p = i
          · subst hpi; simp [hbe]
          · exact h2 p (by omega)
    · rw [if_pos hb]
      refine hk2 D' ⟨h1, fun p hp => ?_⟩
      by_cases hpi : p = i
      · subst hpi; simp [hb]
      · exact h2 p (by omega)
  · obtain ⟨h1, h2⟩ := hI
    have hM' := rm_ag hM h1 zj_m
    obtain ⟨-, c5, -⟩ := rm_n hM'
    have e : fi_ (fun p => set.testBit p && !be_ S s m (wo_ set p)) (S 8 0 1) = S 8 0 1 := fi_eq (Nat.le_refl _) h2 (fun h => absurd h (Nat.lt_irrefl _))
    have hf : fm_ S s m set = true := by unfold fm_; rw [e]; simp
    refine pu_u219_2 ?_
    simp (disch := omega) only [c5, nu_lt, Nat.lt_irrefl, if_false]
    have := hk D' h1
    rw [nu_bT hf] at this
    exact this
theorem mp_220 (hM : re_M S D) (hW : wf_ S) {s m w : Nat} {P : Int32 → pu_D → Prop} (hs : s < S 8 0 0) (hm : m < 12) (hw : w < 3) (hk : ∀ D', ag_ zs_ D D' → P (nu_l (bx_ S s m w (2 ^ S 8 0 1))) D') : pu_I X 220 [.ref 85, .int (nu_i s), .int (nu_i m), .int (nu_i w)] D P := by
  have hn := wf_n hW
  have hp2 : (2 : Nat) ^ S 8 0 1 ≤ 512 := show (2 : Nat) ^ S 8 0 1 ≤ 2 ^ 9 from Nat.pow_le_pow_right (by decide) hn.2.1
  refine pu_e220 ?_
  refine mp_217 hM hW hs hm fun D0 a0 hc => ?_
  have hM0 := rm_ag hM a0 zs_m
  refine lo_S (fun i (r : Nat × pu_D) => r.1 = bx_ S s m w i ∧ ag_ zj_ D0 r.2) (fun r x => pu_h220_12 X (nu_i s) (nu_i w) (nu_l r.1) x r.2 P) (2 ^ S 8 0 1) (0, D0) ⟨rfl, ag_rf D0⟩ (fun i r hi hI hk2 => ?_) (fun r hI => ?_)
  · obtain ⟨b, D'⟩ := r
    obtain ⟨hb, h1⟩ := hI
    dsimp only at hb h1
    have hM' := rm_ag hM0 h1 zj_m
    have hc' := sn_ag hc h1
    obtain ⟨-, c5, -⟩ := rm_n hM'
    have hle := bx_le (S := S) (s := s) (m := m) (w := w) (i := i)
    rw [← hb] at hle
    have hsucc := bx_succ (S := S) (s := s) (m := m) (w := w) (i := i)
    rw [← hb] at hsucc
    have hkeep : ∀ D2, ag_ zj_ D' D2 → ¬ ((b = 0 ∨ bt_ S s w i (b - 1) = true) ∧ ru_ S (fl_ S s m i) = 0 ∧ (w = 2 → fm_ S s m i = true)) → pu_h220_12 X (nu_i s) (nu_i w) (nu_l b) (nu_i (i + 1)) D2 P := by
      intro D2 a2 hx
      rw [if_neg hx] at hsucc
      exact hk2 (b, D2) ⟨hsucc.symm, ag_tr h1 a2⟩
    have htake : ∀ D2, ag_ zj_ D' D2 → ((b = 0 ∨ bt_ S s w i (b - 1) = true) ∧ ru_ S (fl_ S s m i) = 0 ∧ (w = 2 → fm_ S s m i = true)) → pu_h220_12 X (nu_i s) (nu_i w) (nu_i i) (nu_i (i + 1)) D2 P := by
      intro D2 a2 hx
      rw [if_pos hx] at hsucc
      exact hk2 (i + 1, D2) ⟨hsucc.symm, ag_tr h1 a2⟩
    have hrest : (b = 0 ∨ bt_ S s w i (b - 1) = true) → pu_I X 218 [.ref 85, .int (nu_i i)] D' (fun y5 D6 => if y5 = 0 then (if nu_i w = 2 then (pu_I X 219 [.ref 85, .int (nu_i i)] D6 (fun y9 D10 => if y9 = 0 then (pu_h220_12 X (nu_i s) (nu_i w) (nu_l b) (nu_i (i + 1)) D10 P) else (pu_h220_12 X (nu_i s) (nu_i w) (nu_i i) (nu_i (i + 1)) D10 P))) else (pu_h220_12 X (nu_i s) (nu_i w) (nu_i i) (nu_i (i + 1)) D6 P)) else (pu_h220_12 X (nu_i s) (nu_i w) (nu_l b) (nu_i (i + 1)) D6 P)) := by
      intro hbt
      refine mp_218 hM' hW hc' hs (by omega) fun D2 a2 => ?_
      have hr := ru_le (S := S) (f := fl_ S s m i)
      simp (disch := omega) only [nu_eqn]
      by_cases h0 : ru_ S (fl_ S s m i) = 0
      · rw [if_pos h0]
        by_cases hw2 : w = 2
        · rw [if_pos hw2]
          refine mp_219 (rm_ag hM' a2 zj_m) hW (sn_ag hc' a2) hs (by omega) fun D3 a3 => ?_
          simp only [nu_b0]
          by_cases hf : fm_ S s m i = true
          · rw [if_neg (by simpa using hf)]; exact htake D3 (ag_tr a2 a3) ⟨hbt, h0, fun _ => hf⟩
          · rw [if_pos hf]; exact hkeep D3 (ag_tr a2 a3) fun z => hf (z.2.2 hw2)
        · rw [if_neg hw2]; exact htake D2 a2 ⟨hbt, h0, fun z => absurd z hw2⟩
      · rw [if_neg h0]; exact hkeep D2 a2 fun z => h0 z.2.1
    refine pu_u220_12 ?_
    dsimp only
    rw [c5, nu_sh (by omega), if_pos (show nu_i i < nu_i (2 ^ S 8 0 1) by rw [nu_lt (by omega) (by omega)]; exact hi), nu_addn]
    by_cases hb0 : b = 0
    · rw [if_pos (show nu_l b = -1 by rw [hb0]; rfl)]
      exact hrest (Or.inl hb0)
    · rw [if_neg (show ¬ nu_l b = -1 by rw [nu_lm (by omega)]; exact hb0)]
      have cb : ∀ set, co_ S set s ≤ 1782 := fun set => by
        have : co_ S set s ≤ S 8 0 1 * 198 := su_le fun p hp => by
          have hv := wf_p hW hp
          have hvs := wf_s hW hs
          split <;> omega
        omega
      have c1 := cb i
      have c2 := cb (b - 1)
      have p1 := pc_le i
      have p2 := pc_le (b - 1)
      rw [nu_lp hb0] at hrest hkeep
      rw [nu_lp hb0]
      rw [mp_165 (by omega), mp_165 (by omega), mp_215 hM' hW (by omega) hs, mp_215 hM' hW (by omega) hs]
      have q1 : (nu_i w = 1) = (w = 1) := nu_eqn (by omega) (by omega)
      have q2 : (nu_i (pc_ i) < nu_i (pc_ (b - 1))) = (pc_ i < pc_ (b - 1)) := nu_lt (by omega) (by omega)
      have q3 : (nu_i (pc_ i) = nu_i (pc_ (b - 1))) = (pc_ i = pc_ (b - 1)) := nu_eq (by omega) (by omega)
      have q4 : (nu_i (co_ S i s) < nu_i (co_ S (b - 1) s)) = (co_ S i s < co_ S (b - 1) s) := nu_lt (by omega) (by omega)
      have hbtd : bt_ S s w i (b - 1) = true ↔ (if w = 1 then (if pc_ i = pc_ (b - 1) then co_ S i s < co_ S (b - 1) s else pc_ i < pc_ (b - 1)) else co_ S i s < co_ S (b - 1) s) := by
        unfold bt_
        by_cases e1 : w = 1
        · rw [if_pos e1, if_pos e1]
          by_cases e2 : pc_ i = pc_ (b - 1)
          · rw [if_pos e2, if_pos e2, decide_eq_true_eq]
          · rw [if_neg e2, if_neg e2, decide_eq_true_eq]
        · rw [if_neg e1, if_neg e1, decide_eq_true_eq]
      have hno : ¬ bt_ S s w i (b - 1) = true → pu_h220_12 X (nu_i s) (nu_i w) (nu_i (b - 1)) (nu_i (i + 1)) D' P := fun hbt => hkeep D' (ag_rf D') fun z => z.1.elim hb0 hbt
      by_cases e1 : w = 1
      · rw [if_pos (q1.mpr e1)]
        rw [if_pos e1] at hbtd
        by_cases e3 : pc_ i < pc_ (b - 1)
        · rw [if_pos (q2.mpr e3)]
          rw [if_neg (by omega)] at hbtd
          exact hrest (Or.inr (hbtd.mpr e3))
        · rw [if_neg (fun z => e3 (q2.mp z))]
          by_cases e2 : pc_ i = pc_ (b - 1)
          · rw [if_pos (q3.mpr e2)]
            rw [if_pos e2] at hbtd
            by_cases e4 : co_ S i s < co_ S (b - 1) s
            · rw [if_pos (q4.mpr e4)]; exact hrest (Or.inr (hbtd.mpr e4))
            · rw [if_neg (fun z => e4 (q4.mp z))]; exact hno fun z => e4 (hbtd.mp z)
          · rw [if_neg (fun z => e2 (q3.mp z))]
            rw [if_neg e2] at hbtd
            exact hno fun z => e3 (hbtd.mp z)
      · rw [if_neg (fun z => e1 (q1.mp z))]
        rw [if_neg e1] at hbtd
        by_cases e4 : co_ S i s < co_ S (b - 1) s
        · rw [if_pos (q4.mpr e4)]; exact hrest (Or.inr (hbtd.mpr e4))
        · rw [if_neg (fun z => e4 (q4.mp z))]; exact hno fun z => e4 (hbtd.mp z)
  · obtain ⟨b, D'⟩ := r
    obtain ⟨hb, h1⟩ := hI
    dsimp only at hb h1
    subst hb
    have hM' := rm_ag hM0 h1 zj_m
    obtain ⟨-, c5, -⟩ := rm_n hM'
    refine pu_u220_12 ?_
    dsimp only
    simp (disch := omega) only [c5, nu_sh, nu_lt, Nat.lt_irrefl, if_false]
    exact hk D' (ag_tr a0 (ag_mo h1 fun q j hz => by unfold zj_ at hz; unfold zs_; omega))
end MO
