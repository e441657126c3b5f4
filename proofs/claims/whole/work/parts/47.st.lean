/-! CALLS THAT CHANGE THE STREET: one more thing in a table. -/
/-- one more thing r in table t -/
def ad_ (S : Nat → Nat → Nat → Nat) (t : Nat) (r : Nat → Nat) : Nat → Nat → Nat → Nat := fun t' i w => if t' = t ∧ i = S 8 0 t then r w else if t' = 8 ∧ i = 0 ∧ w = t then S 8 0 t + 1 else S t' i w
def ma_ (t c : Nat) (vals : Nat → Int32) (D D' : pu_D) : Prop := D'.1 85 t = nu_i (c + 1) ∧ (∀ w, w < wd_ t → D'.1 (cm_ t + w) c = vals w) ∧ ag_ (fun q j => (q = 85 ∧ j = t) ∨ (cm_ t ≤ q ∧ q < cm_ t + wd_ t ∧ j = c)) D D'
def ca_ (b t c : Nat) (vals : Nat → Int32) (D D' : pu_D) : Prop := D'.1 (b + 2 + 2 * t) 2 = nu_i (c + 1) ∧ (∀ w, w < 4 → D'.1 (b + 3 + 2 * t) (c * 4 + w) = vals w) ∧ ag_ (fun q j => (q = b + 2 + 2 * t ∧ j = 2) ∨ (q = b + 3 + 2 * t ∧ c * 4 ≤ j ∧ j < c * 4 + 4)) D D'
/-- the street's cells -/
def yy_ (q j : Nat) : Prop := (2 ≤ q ∧ q ≤ 16 ∧ ¬ (j = 0 ∧ q % 2 = 1)) ∨ (87 ≤ q ∧ q ≤ 102) ∨ (q = 85 ∧ j ≤ 10) ∨ zz_ q j
/-- bounds -/
def bl_ (i : Nat) : Nat := [0, 0, 0, 0, 1, 0, 0, 0, 1, 0, 0, 0, 1, 0, 0, 0, 1, 1, 0, 1, 0, 0, 0, 0, 0, 0, 0, 0, 0, 0, 0, 0, 0, 0, 0, 0, 0, 1, 0, 0, 0, 0, 0, 0].getD i 0
def bh_ (i : Nat) : Nat := [999, 0, 0, 0, 99, 0, 0, 0, 12, 0, 0, 0, 60, 0, 0, 0, 12, 99, 99, 99, 119, 99, 0, 0, 119, 0, 0, 0, 119, 0, 0, 0, 119, 999, 0, 0, 119, 999, 11, 0, 119, 0, 0, 0].getD i 0
abbrev rb_ (v : Int32) (lo hi : Nat) : Prop := ¬ v < nu_i lo ∧ ¬ nu_i hi < v
theorem rb_e {v : Int32} {lo hi : Nat} (hh : hi < 2147483648) (hl : lo < 2147483648) (h : rb_ v lo hi) : ∃ a, lo ≤ a ∧ a ≤ hi ∧ v = nu_i a := by
  have h0 : ¬ v < 0 := by
    intro z
    rcases Nat.eq_zero_or_pos lo with h1 | h1
    · subst h1; exact h.1 z
    · exact h.1 (Int32.lt_trans z (show nu_i 0 < nu_i lo by rw [nu_lt (by omega) hl]; exact h1))
  have e := nu_ge h0
  have hb := nu_geb v
  rw [e] at h
  obtain ⟨h1, h2⟩ := h
  rw [nu_lt hb hl] at h1
  rw [nu_lt hh hb] at h2
  exact ⟨_, by omega, by omega, e⟩
theorem rb_i {a lo hi : Nat} (hh : hi < 2147483648) (h1 : lo ≤ a) (h2 : a ≤ hi) : rb_ (nu_i a) lo hi := ⟨by rw [nu_lt (by omega) (by omega)]; omega, by rw [nu_lt hh (by omega)]; omega⟩
section ST
variable {X : px_X} {S : Nat → Nat → Nat → Nat} {D : pu_D}
theorem bl_B : (List.range 44).all (fun i => decide (pu_sa 0 i = nu_i (bl_ i)) && decide (pu_sa 1 i = nu_i (bh_ i))) = true := by decide +kernel
theorem sp_145 {t k : Nat} {v : Int32} {P : Int32 → pu_D → Prop} (ht : t < 11) (hk : k < 4) : pu_I X 145 [.int (nu_i t), .int (nu_i k), .int v] D P = P (nu_b (rb_ v (bl_ (t * 4 + k)) (bh_ (t * 4 + k)))) D := by
  have h := List.all_eq_true.mp bl_B (t * 4 + k) (List.mem_range.mpr (by omega))
  simp only [Bool.and_eq_true, decide_eq_true_eq] at h
  refine pu_I_of (pu_e145 ?_) P
  simp (disch := omega) only [nu_muln, nu_add, nu_lt0, if_false, nu_ltn, nu_in, nu_ix, h.1, h.2]
  rw [if_pos (show t * 4 + k < 44 by omega), if_pos (show t * 4 + k < 44 by omega)]
  refine ⟨by omega, ?_⟩
  by_cases h1 : v < nu_i (bl_ (t * 4 + k))
  · rw [if_pos h1, nu_bF (fun z => z.1 h1)]; exact ⟨rfl, by trivial⟩
  · rw [if_neg h1]
    refine ⟨by omega, ?_⟩
    by_cases h2 : nu_i (bh_ (t * 4 + k)) < v
    · rw [if_pos h2, nu_bF (fun z => z.2 h2)]; exact ⟨rfl, by trivial⟩
    · rw [if_neg h2, nu_bT ⟨h1, h2⟩]; exact ⟨rfl, by trivial⟩
theorem sp_83 {q c i w : Nat} {v : Int32} {P : pu_D → Prop} (hq : pu_cl q = 6) (hc : D.1 q 2 = nu_i c) (hm : c * 4 ≤ pu_ln (pu_rf q 1)) (hb : c ≤ 12) (hi : i < c) (hw : w < 4) : pu_V X 83 [.ref q, .int (nu_i i), .int (nu_i w), .int v] D P = P (pu_wi D (pu_rf q 1) (i * 4 + w) v) := by
  refine pu_V_of (pu_e83 hq ?_) P
  rw [sp_81 hq hc, nu_bT (rg_i (by omega) hi), if_neg (by decide)]
  simp (disch := omega) only [nu_lt0, if_false, nu_ltn, nu_muln, nu_add, nu_in, nu_ix]
  rw [if_pos (show w < 4 from hw)]
  exact ⟨by omega, by trivial⟩
theorem sp_80 {q c mo : Nat} {P : Int32 → pu_D → Prop} (hq : pu_cl q = 6) (hc : D.1 q 2 = nu_i c) (hmo : D.1 q 0 = nu_i mo) (h1 : c ≤ mo) (h2 : mo ≤ 12) : pu_I X 80 [.ref q] D P = P (nu_b (c = mo)) D := by
  refine pu_I_of (pu_e80 hq ?_) P
  rw [hc, hmo]
  by_cases h : c = mo
  · rw [if_neg (nu_ltx (by omega) (by omega)), nu_bT h]; exact ⟨rfl, rfl⟩
  · rw [if_pos (nu_ltp (by omega) (by omega)), nu_bF h]; exact ⟨rfl, rfl⟩
theorem tq_B : (List.range 7).all (fun t => [1, 17].all fun b => decide (pu_cl (b + 2 + 2 * t) = 6) && decide (pu_rf (b + 2 + 2 * t) 1 = b + 3 + 2 * t) && decide (pu_ln (b + 3 + 2 * t) = mo_ t * 4)) = true := by decide +kernel
theorem tq_ {b t : Nat} (hb : b = 1 ∨ b = 17) (ht : t < 7) : pu_cl (b + 2 + 2 * t) = 6 ∧ pu_rf (b + 2 + 2 * t) 1 = b + 3 + 2 * t ∧ pu_ln (b + 3 + 2 * t) = mo_ t * 4 := by
  have h := List.all_eq_true.mp (List.all_eq_true.mp tq_B t (List.mem_range.mpr ht)) b (by rcases hb with rfl | rfl <;> simp)
  simp only [Bool.and_eq_true, decide_eq_true_eq] at h
  exact ⟨h.1.1, h.1.2, h.2⟩
theorem mo_le {t : Nat} (ht : t < 7) : mo_ t ≤ 12 ∧ 6 ≤ mo_ t := by
  rcases (show t = 0 ∨ t = 1 ∨ t = 2 ∨ t = 3 ∨ t = 4 ∨ t = 5 ∨ t = 6 by omega) with rfl | rfl | rfl | rfl | rfl | rfl | rfl <;> decide
theorem sp_84 {b t : Nat} {v0 v1 v2 v3 : Int32} {P : Int32 → pu_D → Prop} (hb : b = 1 ∨ b = 17) (ht : t < 7) (hC : re_C b S D) (hlt : S 8 0 t < mo_ t) (hP : ∀ D', ca_ b t (S 8 0 t) (fun w => if w = 0 then v0 else if w = 1 then v1 else if w = 2 then v2 else v3) D D' → P (nu_i (S 8 0 t)) D') : pu_I X 84 [.ref (b + 2 + 2 * t), .int v0, .int v1, .int v2, .int v3] D P := by
  obtain ⟨q1, q2, q3⟩ := tq_ hb ht
  obtain ⟨hc, hmo, -⟩ := hC.1 t ht
  have hml := mo_le ht
  refine pu_e84 q1 ?_
  rw [sp_80 q1 hc hmo (by omega) (by omega), nu_bF (by omega), if_pos rfl, hc, nu_addn]
  generalize S 8 0 t = c at *
  generalize hq : b + 2 + 2 * t = q at *
  have hr : b + 3 + 2 * t = q + 1 := by omega
  rw [hr] at q2 q3
  have g : ∀ D1 : pu_D, D1.1 q 2 = nu_i (c + 1) → ∀ w, w < 4 → ∀ (v : Int32) P, pu_V X 83 [.ref q, .int (nu_i c), .int (nu_i w), .int v] D1 P = P (pu_wi D1 (q + 1) (c * 4 + w) v) := by
    intro D1 h1 w hw v P
    have := sp_83 (X := X) (D := D1) (v := v) (P := P) q1 h1 (by rw [q2, q3]; omega) (by omega) (show c < c + 1 by omega) hw
    rw [q2] at this; exact this
  have e0 : (pu_wi D q 2 (nu_i (c + 1))).1 q 2 = nu_i (c + 1) := wi_eq
  refine (g _ e0 0 (by omega) v0 _).mpr ?_
  have e1 : (pu_wi (pu_wi D q 2 (nu_i (c + 1))) (q + 1) (c * 4 + 0) v0).1 q 2 = nu_i (c + 1) := by rw [wi_q (by omega)]; exact e0
  refine (g _ e1 1 (by omega) v1 _).mpr ?_
  have e2 : (pu_wi (pu_wi (pu_wi D q 2 (nu_i (c + 1))) (q + 1) (c * 4 + 0) v0) (q + 1) (c * 4 + 1) v1).1 q 2 = nu_i (c + 1) := by rw [wi_q (by omega)]; exact e1
  refine (g _ e2 2 (by omega) v2 _).mpr ?_
  have e3 : (pu_wi (pu_wi (pu_wi (pu_wi D q 2 (nu_i (c + 1))) (q + 1) (c * 4 + 0) v0) (q + 1) (c * 4 + 1) v1) (q + 1) (c * 4 + 2) v2).1 q 2 = nu_i (c + 1) := by rw [wi_q (by omega)]; exact e2
  refine (g _ e3 3 (by omega) v3 _).mpr ?_
  refine hP _ ⟨?_, fun w hw => ?_, ?_⟩
  · rw [hq, wi_q (by omega)]; exact e3
  · rw [hr]
    rcases (show w = 0 ∨ w = 1 ∨ w = 2 ∨ w = 3 by omega) with rfl | rfl | rfl | rfl
    · rw [wi_j (by omega), wi_j (by omega), wi_j (by omega), wi_eq]; rfl
    · rw [wi_j (by omega), wi_j (by omega), wi_eq]; rfl
    · rw [wi_j (by omega), wi_eq]; rfl
    · rw [wi_eq]; rfl
  · rw [hq, hr]
    exact ag_wi (ag_wi (ag_wi (ag_wi (ag_wi (ag_rf D) (Or.inl ⟨rfl, rfl⟩)) (Or.inr ⟨rfl, by omega, by omega⟩)) (Or.inr ⟨rfl, by omega, by omega⟩)) (Or.inr ⟨rfl, by omega, by omega⟩)) (Or.inr ⟨rfl, by omega, by omega⟩)
theorem re_ad {b t : Nat} {r : Nat → Nat} {vals : Nat → Int32} {D' : pu_D} (ht : t < 7) (hC : re_C b S D) (hv : ∀ w, w < 4 → vals w = en_ t w (r w)) (h : ca_ b t (S 8 0 t) vals D D') : re_C b (ad_ S t r) D' := by
  obtain ⟨h1, h2, h3⟩ := h
  refine ⟨fun t' ht' => ⟨?_, ?_, fun i hi w hw => ?_⟩, fun j hj => ?_⟩
  · by_cases e : t' = t
    · subst e
      rw [h1]; unfold ad_
      rw [if_neg (by omega), if_pos ⟨rfl, rfl, rfl⟩]
    · rw [h3.1 _ _ (by omega), (hC.1 t' ht').1]
      unfold ad_
      rw [if_neg (by omega), if_neg (by omega)]
  · rw [h3.1 _ _ (by omega)]; exact (hC.1 t' ht').2.1
  · by_cases e : t' = t
    · subst e
      by_cases e2 : i = S 8 0 t'
      · rw [e2, h2 w hw, hv w hw]
        unfold ad_
        rw [if_pos ⟨rfl, rfl⟩]
      · have hi2 : i < S 8 0 t' := by
          unfold ad_ at hi
          rw [if_neg (by omega), if_pos ⟨rfl, rfl, rfl⟩] at hi
          omega
        rw [h3.1 _ _ (by omega), (hC.1 t' ht').2.2 i hi2 w hw]
        unfold ad_
        rw [if_neg (fun z => e2 z.2), if_neg (by omega)]
    · have hi2 : i < S 8 0 t' := by
        unfold ad_ at hi
        rw [if_neg (by omega), if_neg (by omega)] at hi
        exact hi
      rw [h3.1 _ _ (by omega), (hC.1 t' ht').2.2 i hi2 w hw]
      unfold ad_
      rw [if_neg (fun z => e z.1), if_neg (by omega)]
  · rw [h3.1 _ _ (by omega), hC.2 j hj]
    unfold ad_
    rw [if_neg (by omega), if_neg (by omega)]
theorem cm_B : (List.range 7).all (fun t => (List.range 7).all fun t' => decide (t = t') || decide (cm_ t + wd_ t ≤ cm_ t') || decide (cm_ t' + wd_ t' ≤ cm_ t)) = true := by decide
theorem cm_ne {t t' : Nat} (ht : t < 7) (ht' : t' < 7) (h : t' ≠ t) : cm_ t + wd_ t ≤ cm_ t' ∨ cm_ t' + wd_ t' ≤ cm_ t := by
  have := List.all_eq_true.mp (List.all_eq_true.mp cm_B t (List.mem_range.mpr ht)) t' (List.mem_range.mpr ht')
  simp only [Bool.or_eq_true, decide_eq_true_eq] at this
  omega
theorem cm_b {t : Nat} (ht : t < 7) : 87 ≤ cm_ t ∧ cm_ t + wd_ t ≤ 103 := by
  rcases (show t = 0 ∨ t = 1 ∨ t = 2 ∨ t = 3 ∨ t = 4 ∨ t = 5 ∨ t = 6 by omega) with rfl | rfl | rfl | rfl | rfl | rfl | rfl <;> decide
theorem rm_ad {t : Nat} {r : Nat → Nat} {vals : Nat → Int32} {D' : pu_D} (ht : t < 7) (hM : re_M S D) (hv : ∀ w, w < wd_ t → vals w = en_ t w (r w)) (h : ma_ t (S 8 0 t) vals D D') : re_M (ad_ S t r) D' := by
  obtain ⟨h1, h2, h3⟩ := h
  have hcb := cm_b ht
  refine ⟨fun t' ht' => ⟨?_, fun w hw i hi => ?_⟩, fun j hj => ?_⟩
  · by_cases e : t' = t
    · subst e
      rw [h1]; unfold ad_
      rw [if_neg (by omega), if_pos ⟨rfl, rfl, rfl⟩]
    · rw [h3.1 _ _ (by omega), (hM.1 t' ht').1]
      unfold ad_
      rw [if_neg (by omega), if_neg (by omega)]
  · have hcb' := cm_b ht'
    by_cases e : t' = t
    · subst e
      by_cases e2 : i = S 8 0 t'
      · rw [e2, h2 w hw, hv w hw]
        unfold ad_
        rw [if_pos ⟨rfl, rfl⟩]
      · have hi2 : i < S 8 0 t' := by
          unfold ad_ at hi
          rw [if_neg (by omega), if_pos ⟨rfl, rfl, rfl⟩] at hi
          omega
        rw [h3.1 _ _ (by omega), (hM.1 t' ht').2 w hw i hi2]
        unfold ad_
        rw [if_neg (fun z => e2 z.2), if_neg (by omega)]
    · have hi2 : i < S 8 0 t' := by
        unfold ad_ at hi
        rw [if_neg (by omega), if_neg (by omega)] at hi
        exact hi
      have hne := cm_ne ht ht' e
      rw [h3.1 _ _ (by omega), (hM.1 t' ht').2 w hw i hi2]
      unfold ad_
      rw [if_neg (fun z => e z.1), if_neg (by omega)]
  · rw [h3.1 _ _ (by omega), hM.2 j hj]
    unfold ad_
    rw [if_neg (by omega), if_neg (by omega)]
/-- what a new thing must be -/
def rk_ (S : Nat → Nat → Nat → Nat) (t : Nat) (r : Nat → Nat) : Prop := (t = 0 → (1 ≤ r 0 ∧ r 0 ≤ 12) ∧ (1 ≤ r 1 ∧ r 1 ≤ 99) ∧ r 2 ≤ 99 ∧ (1 ≤ r 3 ∧ r 3 ≤ 99)) ∧ (t = 1 → r 0 < 120 ∧ r 1 ≤ 99 ∧ r 2 ≤ S 8 0 0 ∧ r 3 ≤ 1) ∧ (2 ≤ t → r 0 < 120) ∧ (t = 4 → r 1 ≤ 999) ∧ (t = 5 → (1 ≤ r 1 ∧ r 1 ≤ 999) ∧ r 2 ≤ 11)
theorem ad_n {t t' : Nat} {r : Nat → Nat} (ht : t < 7) : ad_ S t r 8 0 t' = if t' = t then S 8 0 t + 1 else S 8 0 t' := by
  unfold ad_
  by_cases e : t' = t
  · subst e; rw [if_neg (by omega), if_pos ⟨rfl, rfl, rfl⟩, if_pos rfl]
  · rw [if_neg (by omega), if_neg (by omega), if_neg e]
theorem ad_r {t : Nat} {r : Nat → Nat} {w : Nat} : ad_ S t r t (S 8 0 t) w = r w := by unfold ad_; rw [if_pos ⟨rfl, rfl⟩]
theorem ad_o {t t' i w : Nat} {r : Nat → Nat} (ht' : t' < 8) (h : ¬ (t' = t ∧ i = S 8 0 t)) : ad_ S t r t' i w = S t' i w := by unfold ad_; rw [if_neg h, if_neg (by omega)]
theorem wf_ad {t : Nat} {r : Nat → Nat} (hW : wf_ S) (ht : t < 7) (hlt : S 8 0 t < mo_ t) (hr : rk_ S t r) : wf_ (ad_ S t r) := by
  obtain ⟨r0, r1, r2, r4, r5⟩ := hr
  have key : ∀ (t' : Nat), t' < 7 → ∀ i, i < ad_ S t r 8 0 t' → (t' = t ∧ i = S 8 0 t) ∨ (i < S 8 0 t' ∧ ¬ (t' = t ∧ i = S 8 0 t)) := by
    intro t' ht' i hi
    rw [ad_n ht] at hi
    by_cases e : t' = t
    · subst e; rw [if_pos rfl] at hi; omega
    · rw [if_neg e] at hi; omega
  refine ⟨fun t' ht' => ?_, fun i hi => ?_, fun i hi => ?_, fun t' ht' h2 i hi => ?_, fun i hi => ?_, fun i hi => ?_, ?_⟩
  · rw [ad_n ht]
    by_cases e : t' = t
    · subst e; rw [if_pos rfl]; omega
    · rw [if_neg e]; exact hW.1 t' ht'
  · rcases key 0 (by omega) i hi with ⟨rfl, rfl⟩ | ⟨h1, h2⟩
    · rw [ad_r, ad_r, ad_r, ad_r]; exact r0 rfl
    · rw [ad_o (by omega) h2, ad_o (by omega) h2, ad_o (by omega) h2, ad_o (by omega) h2]; exact wf_s hW h1
  · have hge : S 8 0 0 ≤ ad_ S t r 8 0 0 := by rw [ad_n ht]; split <;> rename_i e <;> first | (subst e; omega) | omega
    rcases key 1 (by omega) i hi with ⟨rfl, rfl⟩ | ⟨h1, h2⟩
    · rw [ad_r, ad_r, ad_r, ad_r]
      have := r1 rfl
      exact ⟨this.1, this.2.1, by omega, this.2.2.2⟩
    · rw [ad_o (by omega) h2, ad_o (by omega) h2, ad_o (by omega) h2, ad_o (by omega) h2]
      have := wf_p hW h1
      exact ⟨this.1, this.2.1, by omega, this.2.2.2⟩
  · rcases key t' ht' i hi with ⟨rfl, rfl⟩ | ⟨h1, h3⟩
    · rw [ad_r]; exact r2 h2
    · rw [ad_o (by omega) h3]; exact wf_t hW t' ht' h2 h1
  · rcases key 4 (by omega) i hi with ⟨rfl, rfl⟩ | ⟨h1, h2⟩
    · rw [ad_r]; exact r4 rfl
    · rw [ad_o (by omega) h2]; exact wf_w hW h1
  · rcases key 5 (by omega) i hi with ⟨rfl, rfl⟩ | ⟨h1, h2⟩
    · rw [ad_r, ad_r]; exact r5 rfl
    · rw [ad_o (by omega) h2, ad_o (by omega) h2]; exact wf_h hW h1
  · rw [ad_o (by omega) (by omega), ad_o (by omega) (by omega), ad_o (by omega) (by omega), ad_o (by omega) (by omega)]; exact wf_m hW
/-- another street on both sides -/
theorem rx_up {S' : Nat → Nat → Nat → Nat} {D' : pu_D} (h : rx_ S D) (hW : wf_ S') (hC : re_C 1 S' D') (hM : re_M S' D') (a : ag_ yy_ D D') : rx_ S' D' := by
  obtain ⟨h1, h2, h3, h4, h5, h6, h7, h8, h9, h10⟩ := h
  have e : ∀ q j, ¬ yy_ q j → D'.1 q j = D.1 q j := a.1
  refine ⟨hW, hC, hM, fun b hb t ht => ?_, kp_ag h5 a (fun q j z => by unfold yy_ zz_ at z; omega), fun n hn => sf_ag hn (h6 n hn) a (fun q j z => by unfold yy_ zz_ at z; omega), fun k hk1 hk2 => ?_, ?_, tr_ag h9 a (fun q j z => by unfold yy_ zz_ at z; omega), fun i hi => ?_⟩
  · rw [e _ _ (by unfold yy_ zz_; omega)]; exact h4 b hb t ht
  · rw [e _ _ (by unfold yy_ zz_; omega), e _ _ (by unfold yy_ zz_; omega)]; exact h7 k hk1 hk2
  · rw [e _ _ (by unfold yy_ zz_; omega), e _ _ (by unfold yy_ zz_; omega)]; exact h8
  · rw [e _ _ (by unfold yy_ zz_; omega)]; exact h10 i hi
theorem rx_add {t : Nat} {r : Nat → Nat} {vc vm : Nat → Int32} {D1 D2 : pu_D} (h : rx_ S D) (ht : t < 7) (hlt : S 8 0 t < mo_ t) (hr : rk_ S t r) (hvc : ∀ w, w < 4 → vc w = en_ t w (r w)) (hvm : ∀ w, w < wd_ t → vm w = en_ t w (r w)) (hc : ca_ 1 t (S 8 0 t) vc D D1) (hm : ma_ t (S 8 0 t) vm D1 D2) : rx_ (ad_ S t r) D2 := by
  obtain ⟨hW, hC, hM, -⟩ := id h
  have hcb := cm_b ht
  have hC1 := re_ad ht hC hvc hc
  have hM1 : re_M S D1 := rm_ag hM hc.2.2 (fun q j z => by omega)
  have hM2 := rm_ad ht hM1 hvm hm
  have hC2 : re_C 1 (ad_ S t r) D2 := re_Cag hC1 hm.2.2 (fun q j z1 z2 z => by omega)
  refine rx_up h (wf_ad hW ht hlt hr) hC2 hM2 (ag_tr (ag_mo hc.2.2 fun q j z => ?_) (ag_mo hm.2.2 fun q j z => ?_))
  · unfold yy_; omega
  · unfold yy_; omega
/-- the reference's one more -/
theorem mp_169 {c : Nat} {v0 v1 v2 v3 : Int32} {P : Int32 → pu_D → Prop} (h : D.1 85 0 = nu_i c) (hc : c < 6) (hP : ∀ D', ma_ 0 c (fun w => if w = 0 then v0 else if w = 1 then v1 else if w = 2 then v2 else v3) D D' → P (nu_i c) D') : pu_I X 169 [.ref 85, .int v0, .int v1, .int v2, .int v3] D P := by
  refine pu_e169 ?_
  simp (disch := first | decide | omega) only [wi_q, h, nu_in, nu_ix, nu_addn]
  refine ⟨hc, hc, hc, hc, hP _ ⟨wi_eq, fun w hw => ?_, ?_⟩⟩
  · have hw4 : w < 4 := hw
    rcases (show w = 0 ∨ w = 1 ∨ w = 2 ∨ w = 3 by omega) with rfl | rfl | rfl | rfl
    · show (pu_wi _ _ _ _).1 87 c = _
      rw [wi_q (by decide), wi_q (by decide), wi_q (by decide), wi_q (by decide), wi_eq]; rfl
    · show (pu_wi _ _ _ _).1 88 c = _
      rw [wi_q (by decide), wi_q (by decide), wi_q (by decide), wi_eq]; rfl
    · show (pu_wi _ _ _ _).1 89 c = _
      rw [wi_q (by decide), wi_q (by decide), wi_eq]; rfl
    · show (pu_wi _ _ _ _).1 90 c = _
      rw [wi_q (by decide), wi_eq]; rfl
  · exact ag_wi (ag_wi (ag_wi (ag_wi (ag_wi (ag_rf D) (Or.inr ⟨by decide, by decide, rfl⟩)) (Or.inr ⟨by decide, by decide, rfl⟩)) (Or.inr ⟨by decide, by decide, rfl⟩)) (Or.inr ⟨by decide, by decide, rfl⟩)) (Or.inl ⟨rfl, rfl⟩)
theorem mp_171 {c : Nat} {v0 v1 : Int32} {P : Int32 → pu_D → Prop} (h : D.1 85 1 = nu_i c) (hc : c < 9) (hP : ∀ D', ma_ 1 c (fun w => if w = 0 then v0 else if w = 1 then v1 else if w = 2 then -1 else 0) D D' → P (nu_i c) D') : pu_I X 171 [.ref 85, .int v0, .int v1] D P := by
  refine pu_e171 ?_
  simp (disch := first | decide | omega) only [wi_q, h, nu_in, nu_ix, nu_addn]
  refine ⟨hc, hc, hc, hc, hP _ ⟨wi_eq, fun w hw => ?_, ?_⟩⟩
  · have hw4 : w < 4 := hw
    rcases (show w = 0 ∨ w = 1 ∨ w = 2 ∨ w = 3 by omega) with rfl | rfl | rfl | rfl
    · show (pu_wi _ _ _ _).1 91 c = _
      rw [wi_q (by decide), wi_q (by decide), wi_q (by decide), wi_q (by decide), wi_eq]; rfl
    · show (pu_wi _ _ _ _).1 92 c = _
      rw [wi_q (by decide), wi_q (by decide), wi_q (by decide), wi_eq]; rfl
    · show (pu_wi _ _ _ _).1 93 c = _
      rw [wi_q (by decide), wi_q (by decide), wi_eq]; rfl
    · show (pu_wi _ _ _ _).1 94 c = _
      rw [wi_q (by decide), wi_eq]; rfl
  · exact ag_wi (ag_wi (ag_wi (ag_wi (ag_wi (ag_rf D) (Or.inr ⟨by decide, by decide, rfl⟩)) (Or.inr ⟨by decide, by decide, rfl⟩)) (Or.inr ⟨by decide, by decide, rfl⟩)) (Or.inr ⟨by decide, by decide, rfl⟩)) (Or.inl ⟨rfl, rfl⟩)
theorem mp_176 {c : Nat} {v0 v1 : Int32} {P : Int32 → pu_D → Prop} (h : D.1 85 4 = nu_i c) (hc : c < 12) (hP : ∀ D', ma_ 4 c (fun w => if w = 0 then v0 else v1) D D' → P (nu_i (c + 1)) D') : pu_I X 176 [.ref 85, .int v0, .int v1] D P := by
  refine pu_e176 ?_
  simp (disch := first | decide | omega) only [wi_q, h, nu_in, nu_ix, nu_addn]
  refine ⟨hc, hc, hP _ ⟨wi_eq, fun w hw => ?_, ?_⟩⟩
  · have hw4 : w < 2 := hw
    rcases (show w = 0 ∨ w = 1 by omega) with rfl | rfl
    · show (pu_wi _ _ _ _).1 97 c = _
      rw [wi_q (by decide), wi_q (by decide), wi_eq]; rfl
    · show (pu_wi _ _ _ _).1 98 c = _
      rw [wi_q (by decide), wi_eq]; rfl
  · exact ag_wi (ag_wi (ag_wi (ag_rf D) (Or.inr ⟨by decide, by decide, rfl⟩)) (Or.inr ⟨by decide, by decide, rfl⟩)) (Or.inl ⟨rfl, rfl⟩)
theorem mp_178 {c : Nat} {v0 v1 v2 : Int32} {P : Int32 → pu_D → Prop} (h : D.1 85 5 = nu_i c) (hc : c < 8) (hP : ∀ D', ma_ 5 c (fun w => if w = 0 then v0 else if w = 1 then v1 else v2) D D' → P (nu_i c) D') : pu_I X 178 [.ref 85, .int v0, .int v1, .int v2] D P := by
  refine pu_e178 ?_
  simp (disch := first | decide | omega) only [wi_q, h, nu_in, nu_ix, nu_addn]
  refine ⟨hc, hc, hc, hP _ ⟨wi_eq, fun w hw => ?_, ?_⟩⟩
  · have hw4 : w < 3 := hw
    rcases (show w = 0 ∨ w = 1 ∨ w = 2 by omega) with rfl | rfl | rfl
    · show (pu_wi _ _ _ _).1 99 c = _
      rw [wi_q (by decide), wi_q (by decide), wi_q (by decide), wi_eq]; rfl
    · show (pu_wi _ _ _ _).1 100 c = _
      rw [wi_q (by decide), wi_q (by decide), wi_eq]; rfl
    · show (pu_wi _ _ _ _).1 101 c = _
      rw [wi_q (by decide), wi_eq]; rfl
  · exact ag_wi (ag_wi (ag_wi (ag_wi (ag_rf D) (Or.inr ⟨by decide, by decide, rfl⟩)) (Or.inr ⟨by decide, by decide, rfl⟩)) (Or.inr ⟨by decide, by decide, rfl⟩)) (Or.inl ⟨rfl, rfl⟩)
/-- trees, walls, pools: kind k, table t -/
theorem mp_174 {k t c : Nat} {v0 : Int32} {P : Int32 → pu_D → Prop} (hk : (k = 0 ∧ t = 2) ∨ (k = 1 ∧ t = 3) ∨ (k = 2 ∧ t = 6)) (h : D.1 85 t = nu_i c) (hc : c < mo_ t) (hP : ∀ D', ma_ t c (fun _ => v0) D D' → P (nu_i (c + 1)) D') : pu_I X 174 [.ref 85, .int (nu_i k), .int v0] D P := by
  refine pu_e174 ?_
  rcases hk with ⟨rfl, rfl⟩ | ⟨rfl, rfl⟩ | ⟨rfl, rfl⟩
  · have hc2 : c < 12 := hc
    rw [if_pos (show nu_i 0 = (0 : Int32) from rfl), if_pos (show nu_i 0 = (0 : Int32) from rfl), h]
    simp (disch := first | decide | omega) only [wi_q, wi_eq, nu_in, nu_ix, nu_addn]
    refine ⟨hc2, hP _ ⟨by rw [wi_q (by decide), wi_eq], fun w hw => ?_, ag_wi (ag_wi (ag_rf D) (Or.inl ⟨rfl, rfl⟩)) (Or.inr ⟨by decide, by decide, rfl⟩)⟩⟩
    have hw1 : w < 1 := hw
    have : w = 0 := by omega
    subst this; exact wi_eq
  · have hc2 : c < 12 := hc
    rw [if_neg (show ¬ nu_i 1 = (0 : Int32) by decide), if_pos (show nu_i 1 = (1 : Int32) from rfl), if_neg (show ¬ nu_i 1 = (0 : Int32) by decide), if_pos (show nu_i 1 = (1 : Int32) from rfl), h]
    simp (disch := first | decide | omega) only [wi_q, wi_eq, nu_in, nu_ix, nu_addn]
    refine ⟨hc2, hP _ ⟨by rw [wi_q (by decide), wi_eq], fun w hw => ?_, ag_wi (ag_wi (ag_rf D) (Or.inl ⟨rfl, rfl⟩)) (Or.inr ⟨by decide, by decide, rfl⟩)⟩⟩
    have hw1 : w < 1 := hw
    have : w = 0 := by omega
    subst this; exact wi_eq
  · have hc2 : c < 6 := hc
    rw [if_neg (show ¬ nu_i 2 = (0 : Int32) by decide), if_neg (show ¬ nu_i 2 = (1 : Int32) by decide), if_neg (show ¬ nu_i 2 = (0 : Int32) by decide), if_neg (show ¬ nu_i 2 = (1 : Int32) by decide), h]
    simp (disch := first | decide | omega) only [wi_q, wi_eq, nu_in, nu_ix, nu_addn]
    refine ⟨hc2, hP _ ⟨by rw [wi_q (by decide), wi_eq], fun w hw => ?_, ag_wi (ag_wi (ag_rf D) (Or.inl ⟨rfl, rfl⟩)) (Or.inr ⟨by decide, by decide, rfl⟩)⟩⟩
    have hw1 : w < 1 := hw
    have : w = 0 := by omega
    subst this; exact wi_eq
end ST
