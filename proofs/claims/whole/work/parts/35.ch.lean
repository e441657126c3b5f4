/-! CHOOSING: the class's Choice. -/
def bc_f (x0 : Int32) : Int32 := (((((((x0 - (((Int32.toUInt32 x0 >>> (Int32.toUInt32 1 &&& Int32.toUInt32 31)).toInt32) &&& 1431655765)) &&& 858993459) + (((Int32.toUInt32 (x0 - (((Int32.toUInt32 x0 >>> (Int32.toUInt32 1 &&& Int32.toUInt32 31)).toInt32) &&& 1431655765)) >>> (Int32.toUInt32 2 &&& Int32.toUInt32 31)).toInt32) &&& 858993459)) + ((Int32.toUInt32 (((x0 - (((Int32.toUInt32 x0 >>> (Int32.toUInt32 1 &&& Int32.toUInt32 31)).toInt32) &&& 1431655765)) &&& 858993459) + (((Int32.toUInt32 (x0 - (((Int32.toUInt32 x0 >>> (Int32.toUInt32 1 &&& Int32.toUInt32 31)).toInt32) &&& 1431655765)) >>> (Int32.toUInt32 2 &&& Int32.toUInt32 31)).toInt32) &&& 858993459)) >>> (Int32.toUInt32 4 &&& Int32.toUInt32 31)).toInt32)) &&& 252645135) + ((Int32.toUInt32 (((((x0 - (((Int32.toUInt32 x0 >>> (Int32.toUInt32 1 &&& Int32.toUInt32 31)).toInt32) &&& 1431655765)) &&& 858993459) + (((Int32.toUInt32 (x0 - (((Int32.toUInt32 x0 >>> (Int32.toUInt32 1 &&& Int32.toUInt32 31)).toInt32) &&& 1431655765)) >>> (Int32.toUInt32 2 &&& Int32.toUInt32 31)).toInt32) &&& 858993459)) + ((Int32.toUInt32 (((x0 - (((Int32.toUInt32 x0 >>> (Int32.toUInt32 1 &&& Int32.toUInt32 31)).toInt32) &&& 1431655765)) &&& 858993459) + (((Int32.toUInt32 (x0 - (((Int32.toUInt32 x0 >>> (Int32.toUInt32 1 &&& Int32.toUInt32 31)).toInt32) &&& 1431655765)) >>> (Int32.toUInt32 2 &&& Int32.toUInt32 31)).toInt32) &&& 858993459)) >>> (Int32.toUInt32 4 &&& Int32.toUInt32 31)).toInt32)) &&& 252645135) >>> (Int32.toUInt32 8 &&& Int32.toUInt32 31)).toInt32)) + ((Int32.toUInt32 ((((((x0 - (((Int32.toUInt32 x0 >>> (Int32.toUInt32 1 &&& Int32.toUInt32 31)).toInt32) &&& 1431655765)) &&& 858993459) + (((Int32.toUInt32 (x0 - (((Int32.toUInt32 x0 >>> (Int32.toUInt32 1 &&& Int32.toUInt32 31)).toInt32) &&& 1431655765)) >>> (Int32.toUInt32 2 &&& Int32.toUInt32 31)).toInt32) &&& 858993459)) + ((Int32.toUInt32 (((x0 - (((Int32.toUInt32 x0 >>> (Int32.toUInt32 1 &&& Int32.toUInt32 31)).toInt32) &&& 1431655765)) &&& 858993459) + (((Int32.toUInt32 (x0 - (((Int32.toUInt32 x0 >>> (Int32.toUInt32 1 &&& Int32.toUInt32 31)).toInt32) &&& 1431655765)) >>> (Int32.toUInt32 2 &&& Int32.toUInt32 31)).toInt32) &&& 858993459)) >>> (Int32.toUInt32 4 &&& Int32.toUInt32 31)).toInt32)) &&& 252645135) + ((Int32.toUInt32 (((((x0 - (((Int32.toUInt32 x0 >>> (Int32.toUInt32 1 &&& Int32.toUInt32 31)).toInt32) &&& 1431655765)) &&& 858993459) + (((Int32.toUInt32 (x0 - (((Int32.toUInt32 x0 >>> (Int32.toUInt32 1 &&& Int32.toUInt32 31)).toInt32) &&& 1431655765)) >>> (Int32.toUInt32 2 &&& Int32.toUInt32 31)).toInt32) &&& 858993459)) + ((Int32.toUInt32 (((x0 - (((Int32.toUInt32 x0 >>> (Int32.toUInt32 1 &&& Int32.toUInt32 31)).toInt32) &&& 1431655765)) &&& 858993459) + (((Int32.toUInt32 (x0 - (((Int32.toUInt32 x0 >>> (Int32.toUInt32 1 &&& Int32.toUInt32 31)).toInt32) &&& 1431655765)) >>> (Int32.toUInt32 2 &&& Int32.toUInt32 31)).toInt32) &&& 858993459)) >>> (Int32.toUInt32 4 &&& Int32.toUInt32 31)).toInt32)) &&& 252645135) >>> (Int32.toUInt32 8 &&& Int32.toUInt32 31)).toInt32)) >>> (Int32.toUInt32 16 &&& Int32.toUInt32 31)).toInt32)) &&& 63
def pc_ (m : Nat) : Nat := ct_ (fun p => m.testBit p) 9
set_option maxRecDepth 100000 in
theorem bc_B : (List.range 512).all (fun m => decide (bc_f (nu_i m) = nu_i (pc_ m))) = true := by decide +kernel
theorem pc_le (m : Nat) : pc_ m ≤ 9 := ct_le _ _
theorem sp_247 {X : px_X} {D : pu_D} {m : Nat} {P : Int32 → pu_D → Prop} (hm : m < 512) : pu_I X 247 [.int (nu_i m)] D P = P (nu_i (pc_ m)) D := by
  refine pu_I_of (pu_e247 ?_) P
  exact ⟨of_decide_eq_true (List.all_eq_true.mp bc_B m (List.mem_range.mpr hm)), rfl⟩
theorem su_one {n p : Nat} (g : Nat → Nat) (hp : p < n) : su_ (fun i => if (2 ^ p).testBit i = true then g i else 0) n = g p := by
  have h0 : ∀ k, k ≤ p → su_ (fun i => if (2 ^ p).testBit i = true then g i else 0) k = 0 := by
    intro k
    induction k with
    | zero => exact fun _ => rfl
    | succ k ih =>
      intro hk
      unfold su_
      rw [ih (by omega), Nat.testBit_two_pow]
      rw [if_neg (by simp; omega)]
  have h1 : ∀ k, p < k → su_ (fun i => if (2 ^ p).testBit i = true then g i else 0) k = g p := by
    intro k
    induction k with
    | zero => exact fun h => absurd h (Nat.not_lt_zero _)
    | succ k ih =>
      intro hk
      unfold su_
      rw [Nat.testBit_two_pow]
      by_cases h : p = k
      · subst h
        rw [h0 p (Nat.le_refl p), if_pos (by simp), Nat.zero_add]
      · rw [ih (by omega), if_neg (by simpa using h), Nat.add_zero]
  exact h1 n hp
def fl_ (S : Nat → Nat → Nat → Nat) (s m set j : Nat) : Nat := sh_ S j 0 + su_ (fun p => if set.testBit p = true then gv_ S p s j m else 0) (S 8 0 1)
def be_ (S : Nat → Nat → Nat → Nat) (s m set : Nat) : Bool := !decide (k1_ S (fl_ S s m set) < S 7 0 3 * 2) && !decide (k2_ S (fl_ S s m set) < S 7 0 3 * 2)
/-- without place p -/
def wo_ (set p : Nat) : Nat := set &&& (511 ^^^ (1 <<< p))
def fm_ (S : Nat → Nat → Nat → Nat) (s m set : Nat) : Bool := !decide (fi_ (fun p => set.testBit p && !be_ S s m (wo_ set p)) (S 8 0 1) < S 8 0 1)
def bt_ (S : Nat → Nat → Nat → Nat) (s w a o : Nat) : Bool := if w = 1 then (if pc_ a = pc_ o then decide (co_ S a s < co_ S o s) else decide (pc_ a < pc_ o)) else decide (co_ S a s < co_ S o s)
/-- the best of the sets below i: 0 none, set + 1 -/
def bx_ (S : Nat → Nat → Nat → Nat) (s m w : Nat) (i : Nat) : Nat := fo_ (fun set b => if (b = 0 ∨ bt_ S s w set (b - 1) = true) ∧ ru_ S (fl_ S s m set) = 0 ∧ (w = 2 → fm_ S s m set = true) then set + 1 else b) i 0
/-- what prepare leaves -/
def cp_ (S : Nat → Nat → Nat → Nat) (s m : Nat) (D : pu_D) : Prop := D.1 56 6 = nu_i (S 7 0 3 * 2) ∧ D.1 56 7 = nu_i (S 8 0 1) ∧ lp_ S 62 D ∧
  (∀ j, j < S 7 0 3 * 2 → D.1 59 j = nu_i (if ip_ S j = true then 0 else S 7 0 0) ∧ D.1 60 j = nu_i (if ip_ S j = true then 5 else 2147483647) ∧ D.1 58 j = nu_i (sh_ S j 0) ∧ ∀ p, p < S 8 0 1 → D.1 57 (p * 120 + j) = nu_i (gv_ S p s j m)) ∧ ∀ p, p < S 8 0 1 → D.1 61 p = nu_i (S 0 s 2 + S 1 p 1)
section CH
variable {X : px_X} {S : Nat → Nat → Nat → Nat} {D : pu_D}
theorem cp_ag {s m : Nat} {Z : Nat → Nat → Prop} {D' : pu_D} (h : cp_ S s m D) (ha : ag_ Z D D') (hZ : ∀ q j, Z q j → q = 65) : cp_ S s m D' := by
  obtain ⟨h1, h2, h3, h4, h5⟩ := h
  have e : ∀ q j, ¬ q = 65 → D'.1 q j = D.1 q j := fun q j hq => ha.1 q j fun z => hq (hZ q j z)
  refine ⟨(e _ _ (by omega)).trans h1, (e _ _ (by omega)).trans h2, lp_ag h3 ha (fun j => ⟨fun z => by have := hZ _ _ z; omega, fun z => by have := hZ _ _ z; omega⟩), fun j hj => ?_, fun p hp => (e _ _ (by omega)).trans (h5 p hp)⟩
  obtain ⟨a1, a2, a3, a4⟩ := h4 j hj
  exact ⟨(e _ _ (by omega)).trans a1, (e _ _ (by omega)).trans a2, (e _ _ (by omega)).trans a3, fun p hp => (e _ _ (by omega)).trans (a4 p hp)⟩
theorem fl_le (hW : wf_ S) {s m set j : Nat} (hs : s < S 8 0 0) : fl_ S s m set j ≤ 900000 := by
  have hn := wf_n hW
  have h1 := sh_le hW (q := j) (h := 0)
  have h2 : su_ (fun p => if set.testBit p = true then gv_ S p s j m else 0) (S 8 0 1) ≤ S 8 0 1 * 99000 := su_le fun p hp => by
    show (if set.testBit p = true then gv_ S p s j m else 0) ≤ 99000
    split
    · exact gv_le hW hs
    · omega
  unfold fl_; omega
theorem sp_9L (hC : re_C 1 S D) (hW : wf_ S) {s m i : Nat} {P : pu_D → Prop} (hs : s < S 8 0 0) (hm : m < 12) (hi : i < 120) (h7 : D.1 56 7 = nu_i (S 8 0 1)) (hk : ∀ D', ag_ (fun q j => q = 57 ∧ j % 120 = i) D D' → (∀ p, p < S 8 0 1 → D'.1 57 (p * 120 + i) = nu_i (gv_ S p s i m)) → pu_h9_38 X (nu_i s) (nu_i m) (nu_i (i + 1)) D' P) : pu_h9_116 X (nu_i s) (nu_i m) (nu_i i) 0 D P := by
  have hn := wf_n hW
  refine lo_S (fun k D' => ag_ (fun q j => q = 57 ∧ j % 120 = i) D D' ∧ ∀ p, p < k → D'.1 57 (p * 120 + i) = nu_i (gv_ S p s i m)) (fun D' x => pu_h9_116 X (nu_i s) (nu_i m) (nu_i i) x D' P) (S 8 0 1) D ⟨ag_rf D, fun p hp => absurd hp (Nat.not_lt_zero _)⟩ (fun k D' hk1 hI hk2 => ?_) (fun D' hI => ?_)
  · obtain ⟨h1, h2⟩ := hI
    have hC' := re_Z hC h1 (fun q j hz => by omega)
    have e7 := (h1.1 56 7 (by omega)).trans h7
    refine pu_u9_116 ?_
    simp (disch := omega) only [e7, nu_lt, hk1, if_true, sp_61 hC' hW hk1 hs hi hm, nu_muln, nu_add, nu_in, nu_ix, nu_addn]
    refine ⟨by omega, hk2 _ ⟨ag_wi h1 ⟨rfl, by omega⟩, fun p hp => ?_⟩⟩
    by_cases hpk : p = k
    · subst hpk; exact wi_eq
    · rw [wi_j (by omega)]; exact h2 p (by omega)
  · obtain ⟨h1, h2⟩ := hI
    have e7 := (h1.1 56 7 (by omega)).trans h7
    refine pu_u9_116 ?_
    simp (disch := omega) only [e7, nu_lt, Nat.lt_irrefl, if_false, nu_addn]
    exact hk D' h1 h2
theorem sp_9 (hC : re_C 1 S D) (hW : wf_ S) {s m : Nat} {P : pu_D → Prop} (hs : s < S 8 0 0) (hm : m < 12) (hk : ∀ D', ag_ (fun q _ => 56 ≤ q ∧ q ≤ 65) D D' → cp_ S s m D' → P D') : pu_V X 9 [.ref 56, .ref 1, .int (nu_i s), .int (nu_i m)] D P := by
  have hM := wf_m hW
  have hn := wf_n hW
  refine pu_e9 ?_
  refine sp_20 hC hW (Or.inr rfl) fun D1 a1 p1 => ?_
  have hC1 := re_Z hC a1 (fun q j hz => by omega)
  obtain ⟨-, c5, -⟩ := re_n hC1
  obtain ⟨m0, -, -, -⟩ := re_m hC1
  rw [p1.1, wi_q (show ¬ 5 = 56 by omega), c5, if_neg (by rw [nu_nlt (by omega) (by omega)]; show ¬ 9 < S 8 0 1; omega)]
  refine lo_S (fun i D' => ag_ (fun q _ => 56 ≤ q ∧ q ≤ 65) D D' ∧ D'.1 56 6 = nu_i (S 7 0 3 * 2) ∧ D'.1 56 7 = nu_i (S 8 0 1) ∧ lp_ S 62 D' ∧ ∀ j, j < i → D'.1 59 j = nu_i (if ip_ S j = true then 0 else S 7 0 0) ∧ D'.1 60 j = nu_i (if ip_ S j = true then 5 else 2147483647) ∧ D'.1 58 j = nu_i (sh_ S j 0) ∧ ∀ p, p < S 8 0 1 → D'.1 57 (p * 120 + j) = nu_i (gv_ S p s j m)) (fun D' x => pu_h9_38 X (nu_i s) (nu_i m) x D' P) (S 7 0 3 * 2) _ ?_ (fun i D' hi hI hk2 => ?_) (fun D' hI => ?_)
  · refine ⟨ag_wi (ag_wi (ag_mo a1 fun q j hz => by omega) (by omega)) (by omega), by rw [wi_j (by omega), wi_eq], wi_eq, ?_, fun j hj => absurd hj (Nat.not_lt_zero _)⟩
    exact lp_ag p1 (ag_wi (ag_wi (Z := fun q _ => q = 56) (ag_rf D1) rfl) rfl) (fun j => by omega)
  · obtain ⟨h1, h2, h3, h4, h5⟩ := hI
    have hC' := re_Z hC h1 (fun q j hz => by omega)
    obtain ⟨m0, -, -, -⟩ := re_m hC'
    have key : ∀ (fv cv : Nat), fv = (if ip_ S i = true then 0 else S 7 0 0) → cv = (if ip_ S i = true then 5 else 2147483647) → pu_I X 68 [.ref 1, .int (nu_i i), .int 0] (pu_wi (pu_wi D' 59 i (nu_i fv)) 60 i (nu_i cv)) (fun y D7 => i < 120 ∧ pu_h9_116 X (nu_i s) (nu_i m) (nu_i i) 0 (pu_wi D7 58 i y) P) := by
      intro fv cv hf hc
      have ha2 : ag_ (fun q _ => 56 ≤ q ∧ q ≤ 65) D (pu_wi (pu_wi D' 59 i (nu_i fv)) 60 i (nu_i cv)) := ag_wi (ag_wi h1 (by omega)) (by omega)
      have hC2 := re_Z hC ha2 (fun q j hz => by omega)
      have e68 := sp_68 (X := X) hC2 hW (q := i) (hh := 0) (P := fun y D7 => i < 120 ∧ pu_h9_116 X (nu_i s) (nu_i m) (nu_i i) 0 (pu_wi D7 58 i y) P) (by omega) (by omega)
      refine e68.mpr ⟨by omega, ?_⟩
      have ha3 := ag_wi (q := 58) (j := i) (y := nu_i (sh_ S i 0)) ha2 (by omega)
      have hC3 := re_Z hC ha3 (fun q j hz => by omega)
      refine sp_9L hC3 hW hs hm (by omega) (by rw [wi_q (by omega), wi_q (by omega), wi_q (by omega)]; exact h3) fun D4 a4 g4 => ?_
      refine hk2 D4 ⟨ag_tr ha3 (ag_mo a4 fun q j hz => by omega), ?_, ?_, ?_, fun j hj => ?_⟩
      · rw [a4.1 _ _ (by omega), wi_q (by omega), wi_q (by omega), wi_q (by omega)]; exact h2
      · rw [a4.1 _ _ (by omega), wi_q (by omega), wi_q (by omega), wi_q (by omega)]; exact h3
      · exact lp_ag h4 (ag_tr (ag_wi (ag_wi (ag_wi (Z := fun q _ => q = 57 ∨ q = 58 ∨ q = 59 ∨ q = 60) (ag_rf D') (by omega)) (by omega)) (by omega)) (ag_mo a4 fun q j hz => by omega)) (fun j => by omega)
      · by_cases hji : j = i
        · subst hji
          refine ⟨?_, ?_, ?_, g4⟩
          · rw [a4.1 _ _ (by omega), wi_q (by omega), wi_q (by omega), wi_eq, hf]
          · rw [a4.1 _ _ (by omega), wi_q (by omega), wi_eq, hc]
          · rw [a4.1 _ _ (by omega), wi_eq]
        · obtain ⟨b1, b2, b3, b4⟩ := h5 j (by omega)
          refine ⟨?_, ?_, ?_, fun p hp => ?_⟩
          · rw [a4.1 _ _ (by omega), wi_q (by omega), wi_q (by omega), wi_j hji]; exact b1
          · rw [a4.1 _ _ (by omega), wi_q (by omega), wi_j hji]; exact b2
          · rw [a4.1 _ _ (by omega), wi_j hji]; exact b3
          · rw [a4.1 _ _ (by omega), wi_q (by omega), wi_q (by omega), wi_q (by omega)]; exact b4 p hp
    refine pu_u9_38 ?_
    have e63 := h4.2 i hi
    simp (disch := omega) only [h2, nu_lt, hi, if_true, nu_in, nu_ix, e63, nu_b0, m0, show (i < 120) = True from eq_true (by omega), true_and]
    by_cases hb : ip_ S i = true
    · simp only [hb, not_true_eq_false, if_false]
      have := key 0 5 (by rw [if_pos hb]) (by rw [if_pos hb])
      simp only [show (i < 120) = True from eq_true (by omega), true_and] at this
      exact this
    · simp only [hb, not_false_eq_true, if_true]
      have := key (S 7 0 0) 2147483647 (by rw [if_neg hb]) (by rw [if_neg hb])
      simp only [show (i < 120) = True from eq_true (by omega), true_and] at this
      exact this
  · obtain ⟨h1, h2, h3, h4, h5⟩ := hI
    refine pu_u9_38 ?_
    simp (disch := omega) only [h2, nu_lt, Nat.lt_irrefl, if_false]
    refine lo_S (fun k D2 => ag_ (fun q _ => q = 61) D' D2 ∧ ∀ p, p < k → D2.1 61 p = nu_i (S 0 s 2 + S 1 p 1)) (fun D2 x => pu_h9_163 X (nu_i s) x D2 P) (S 8 0 1) D' ⟨ag_rf D', fun p hp => absurd hp (Nat.not_lt_zero _)⟩ (fun k D2 hk1 hI hk3 => ?_) (fun D2 hI => ?_)
    · obtain ⟨g1, g2⟩ := hI
      have hC2 := re_Z (re_Z hC h1 (fun q j hz => by omega)) g1 (fun q j hz => by omega)
      have e7 := (g1.1 56 7 (by omega)).trans h3
      have hv := wf_p hW hk1
      have hvs := wf_s hW hs
      have e2 : (2 : Nat) ^ k < 512 := Nat.pow_lt_pow_right (n := 9) (by decide) (by omega)
      refine pu_u9_163 ?_
      simp (disch := omega) only [e7, nu_lt, hk1, if_true, nu_sh, sp_69 hC2 hW e2 hs, nu_in, nu_ix, nu_addn]
      refine ⟨by omega, hk3 _ ⟨ag_wi g1 rfl, fun p hp => ?_⟩⟩
      by_cases hpk : p = k
      · subst hpk
        rw [wi_eq]
        unfold co_
        rw [su_one (fun i => S 0 s 2 + S 1 i 1) hk1]
      · rw [wi_j hpk]; exact g2 p (by omega)
    · obtain ⟨g1, g2⟩ := hI
      have e7 := (g1.1 56 7 (by omega)).trans h3
      refine pu_u9_163 ?_
      simp (disch := omega) only [e7, nu_lt, Nat.lt_irrefl, if_false]
      refine hk D2 (ag_tr h1 (ag_mo g1 fun q j hz => by omega)) ⟨(g1.1 _ _ (by omega)).trans h2, e7, lp_ag h4 g1 (fun j => by omega), fun j hj => ?_, g2⟩
      obtain ⟨b1, b2, b3, b4⟩ := h5 j hj
      exact ⟨(g1.1 _ _ (by omega)).trans b1, (g1.1 _ _ (by omega)).trans b2, (g1.1 _ _ (by omega)).trans b3, fun p hp => (g1.1 _ _ (by omega)).trans (b4 p hp)⟩
theorem sp_12 (hW : wf_ S) {s m set : Nat} {P : Int32 → pu_D → Prop} (hc : cp_ S s m D) (hset : set < 512) : pu_I X 12 [.ref 56, .int (nu_i set)] D P = P (nu_i (co_ S set s)) D := by
  have hn := wf_n hW
  refine pu_I_of (pu_e12 ?_) P
  refine lo_ix (fun a x => pu_h12_4 X (nu_i set) (nu_i a) x D _) (S 8 0 1) (su_ (fun p => if set.testBit p = true then S 0 s 2 + S 1 p 1 else 0)) (fun i hi h => ?_) ?_
  · refine pu_u12_4 ?_
    simp (disch := omega) only [hc.2.1, nu_lt, hi, if_true, sp_142, nu_b0, nu_in, nu_ix, hc.2.2.2.2 i hi, nu_add, nu_addn]
    by_cases hb : set.testBit i = true
    · rw [if_neg (by simpa using hb)]
      simp only [su_, hb, if_true] at h
      exact ⟨by omega, h⟩
    · rw [if_pos hb]
      simp only [su_, hb, if_false, Nat.add_zero, Bool.false_eq_true] at h
      exact h
  · refine pu_u12_4 ?_
    simp (disch := omega) only [hc.2.1, nu_lt, Nat.lt_irrefl, if_false]
    exact ⟨by trivial, by trivial⟩
theorem nu_sl {a b : Nat} (ha : a < 1000) (hb : b < 1000) : (nu_i a - nu_i b < 0) = (a < b) ∧ (nu_i a - nu_i b = 0) = (a = b) := by
  rcases Nat.lt_or_ge a b with h | h
  · have h1 : (nu_i a - nu_i b).toInt = -((b - a : Nat) : Int) := by
      rw [nu_neg, nu_sub (Nat.le_of_lt h), Int32.toInt_neg]
      have h3 : (nu_i (b - a)).toInt = ((b - a : Nat) : Int) := Int32.toInt_ofNat_of_lt (by omega)
      rw [h3, Int.bmod_eq_of_le (by omega) (by omega)]
    have z : (0 : Int32).toInt = 0 := rfl
    refine ⟨propext ⟨fun _ => h, fun _ => Int32.lt_iff_toInt_lt.mpr (by rw [h1, z]; omega)⟩, propext ⟨fun e => ?_, fun e => by omega⟩⟩
    rw [e, z] at h1; omega
  · rw [nu_sub h, nu_lt0 (by omega), nu_eqn (by omega) (by omega)]
    refine ⟨propext ⟨False.elim, fun e => by omega⟩, propext ⟨fun e => ?_, fun e => ?_⟩⟩
    · have : a - b = 0 := e; omega
    · show a - b = 0; omega
theorem sp_11 (hW : wf_ S) {s m a o w : Nat} {P : Int32 → pu_D → Prop} (hc : cp_ S s m D) (ha : a < 512) (ho : o < 512) (hw : w < 3) (hs : s < S 8 0 0) : pu_I X 11 [.ref 56, .int (nu_i a), .int (nu_i o), .int (nu_i w)] D P = P (nu_b (bt_ S s w a o = true)) D := by
  have hn := wf_n hW
  have p1 := pc_le a
  have p2 := pc_le o
  have cb : ∀ set, co_ S set s ≤ 1782 := fun set => by
    have : co_ S set s ≤ S 8 0 1 * 198 := su_le fun p hp => by
      have hv := wf_p hW hp
      have hvs := wf_s hW hs
      split <;> omega
    omega
  have c1 := cb a
  have c2 := cb o
  refine pu_I_of (pu_e11 ?_) P
  simp (disch := omega) only [sp_247, sp_12 hW hc, nu_eqn, nu_lt, (nu_sl (a := pc_ a) (b := pc_ o) (by omega) (by omega)).1, (nu_sl (a := pc_ a) (b := pc_ o) (by omega) (by omega)).2]
  unfold bt_
  by_cases h1 : w = 1
  · rw [if_pos h1, if_pos h1]
    by_cases h2 : pc_ a = pc_ o
    · rw [if_pos h2, if_pos h2]
      by_cases h3 : co_ S a s < co_ S o s
      · rw [if_pos h3, nu_bT (by simpa using h3)]; exact ⟨by trivial, by trivial⟩
      · rw [if_neg h3, nu_bF (by simpa using h3)]; exact ⟨by trivial, by trivial⟩
    · rw [if_neg h2, if_neg h2]
      by_cases h3 : pc_ a < pc_ o
      · rw [if_pos h3, nu_bT (by simpa using h3)]; exact ⟨by trivial, by trivial⟩
      · rw [if_neg h3, nu_bF (by simpa using h3)]; exact ⟨by trivial, by trivial⟩
  · rw [if_neg h1, if_neg h1]
    by_cases h3 : co_ S a s < co_ S o s
    · rw [if_pos h3, nu_bT (by simpa using h3)]; exact ⟨by trivial, by trivial⟩
    · rw [if_neg h3, nu_bF (by simpa using h3)]; exact ⟨by trivial, by trivial⟩
end CH
