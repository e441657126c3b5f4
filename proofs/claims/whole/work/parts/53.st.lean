/-! THE SHELVES: a row made, an element set, an element asked for, what a shelf holds. -/
/-- long numbers written in a row -/
def cw_ (D : pu_D) (q off : Nat) (f : Nat → Int64) : Nat → pu_D
  | 0 => D
  | n + 1 => pu_wl (cw_ D q off f n) q (off + n) (f n)
theorem wl_if {D : pu_D} {q j q' j' : Nat} {y : Int64} : (pu_wl D q j y).2 q' j' = if q' = q ∧ j' = j then y else D.2 q' j' := by
  by_cases h1 : q' = q
  · subst h1
    by_cases h2 : j' = j
    · subst h2; simp [pu_wl, px_upL, vp_updL]
    · simp [pu_wl, px_upL, vp_updL, h2]
  · simp [pu_wl, px_upL, h1]
theorem wl_1 {D : pu_D} {q j : Nat} {y : Int64} : (pu_wl D q j y).1 = D.1 := rfl
theorem cw_1 {D : pu_D} {q off : Nat} {f : Nat → Int64} : ∀ n, (cw_ D q off f n).1 = D.1
  | 0 => rfl
  | n + 1 => cw_1 n
theorem cw_2 {D : pu_D} {q off : Nat} {f : Nat → Int64} {q' j : Nat} : ∀ n, (cw_ D q off f n).2 q' j = if q' = q ∧ off ≤ j ∧ j < off + n then f (j - off) else D.2 q' j
  | 0 => by rw [if_neg (by omega)]; rfl
  | n + 1 => by
    rw [cw_, wl_if, cw_2 n]
    by_cases h : q' = q ∧ j = off + n
    · rw [if_pos h, if_pos (by omega), show j - off = n by omega]
    · rw [if_neg h]
      by_cases h2 : q' = q ∧ off ≤ j ∧ j < off + n
      · rw [if_pos h2, if_pos (by omega)]
      · rw [if_neg h2, if_neg (by omega)]
section ST
variable {X : px_X} {S : Nat → Nat → Nat → Nat} {D : pu_D}
theorem sw_B : (List.range 8).all (fun n => decide (pu_ln (70 + 2 * n) = 120) && decide (pu_cl (70 + 2 * n) = 102)) = true := by decide +kernel
theorem sw_ {n : Nat} (hn : n < 8) : pu_ln (70 + 2 * n) = 120 ∧ pu_cl (70 + 2 * n) = 102 := by
  have := List.all_eq_true.mp sw_B n (List.mem_range.mpr hn)
  simp only [Bool.and_eq_true, decide_eq_true_eq] at this
  exact this
theorem sh_no {n : Nat} (hn : n < 8) (h : no_ D n) : (∀ P, pu_I X 32 [.ref (69 + 2 * n)] D P = P 0 D) ∧ ∀ P, pu_I X 33 [.ref (69 + 2 * n)] D P = P 0 D := by
  refine ⟨fun P => pu_I_of (pu_e32 (sv_ hn).2.1 ?_) P, fun P => pu_I_of (pu_e33 (sv_ hn).2.1 ?_) P⟩
  · rw [h.2, if_pos (by decide)]; exact ⟨rfl, rfl⟩
  · rw [h.2, if_pos (by decide)]; exact ⟨rfl, rfl⟩
theorem sh_ro {n so sz : Nat} (hn : n < 8) (h : ro_ D n so sz) : (∀ P, pu_I X 32 [.ref (69 + 2 * n)] D P = P 1 D) ∧ ∀ P, pu_I X 33 [.ref (69 + 2 * n)] D P = P 0 D := by
  have hso := h.1
  have e1 : ¬ nu_i (100 + so) < 100 := by rw [nu_ltn (by omega) (by omega)]; show ¬ 100 + so < 100; omega
  have e2 : ¬ nu_i (100 + so) < 0 := by rw [nu_lt0 (by omega)]; exact fun z => z
  refine ⟨fun P => pu_I_of (pu_e32 (sv_ hn).2.1 ?_) P, fun P => pu_I_of (pu_e33 (sv_ hn).2.1 ?_) P⟩
  · rw [h.2.2.2.2.1, if_neg e1]; exact ⟨rfl, rfl⟩
  · rw [h.2.2.2.2.1, if_neg e2, if_neg e1]; exact ⟨rfl, rfl⟩
theorem sh_la {n k a w v : Nat} (hn : n < 8) (h : la_ D n k a w v) : (∀ P, pu_I X 32 [.ref (69 + 2 * n)] D P = P 0 D) ∧ ∀ P, pu_I X 33 [.ref (69 + 2 * n)] D P = P 1 D := by
  have hk := h.1.2.2.2.1
  have e1 : nu_i k < 100 := by rw [nu_ltn (by omega) (by omega)]; show k < 100; omega
  have e2 : ¬ nu_i k < 0 := by rw [nu_lt0 (by omega)]; exact fun z => z
  refine ⟨fun P => pu_I_of (pu_e32 (sv_ hn).2.1 ?_) P, fun P => pu_I_of (pu_e33 (sv_ hn).2.1 ?_) P⟩
  · rw [h.1.1, if_pos e1]; exact ⟨rfl, rfl⟩
  · rw [h.1.1, if_neg e2, if_pos e1]; exact ⟨rfl, rfl⟩
/-- one shelf anew on both sides -/
theorem rx_sh {n : Nat} {D' : pu_D} (h : rx_ S D) (hn : n < 8) (h1 : ∀ q j, ¬ ((q = 69 + 2 * n ∧ 1 ≤ j) ∨ (103 ≤ q ∧ q ≤ 107 ∧ j = n)) → D'.1 q j = D.1 q j) (h2 : ∀ n', n' < 8 → n' ≠ n → (∀ i, i < 120 → D'.2 (70 + 2 * n') i = D.2 (70 + 2 * n') i) ∧ ∀ i, i < 120 → D'.2 108 (120 * n' + i) = D.2 108 (120 * n' + i)) (h3 : sf_ D' n) : rx_ S D' := by
  have a : ag_ (fun q j => (q = 69 + 2 * n ∧ 1 ≤ j) ∨ (103 ≤ q ∧ q ≤ 107 ∧ j = n)) D (D'.1, D.2) := ⟨h1, rfl⟩
  obtain ⟨g1, g2, g3, g4, g5, g6, g7, g8, g9, g10⟩ := h
  refine ⟨g1, re_Cag (D' := (D'.1, D.2)) g2 a (fun q j x y z => by omega), ⟨fun t ht => ⟨by rw [h1 _ _ (by omega)]; exact (g3.1 t ht).1, fun w hw i hi => by have := cm_b ht; rw [h1 _ _ (by omega)]; exact (g3.1 t ht).2 w hw i hi⟩, fun j hj => by rw [h1 _ _ (by omega)]; exact g3.2 j hj⟩, fun b hb t ht => ?_, kp_ag (D' := (D'.1, D.2)) g5 a (fun q j z => by omega), fun n' hn' => ?_, fun k hk1 hk2 => ?_, ?_, tr_ag (D' := (D'.1, D.2)) g9 a (fun q j z => by omega), fun i hi => ?_⟩
  · rw [h1 _ _ (by omega)]; exact g4 b hb t ht
  · by_cases e : n' = n
    · subst e; exact h3
    · obtain ⟨k1, k2⟩ := h2 n' hn' e
      rcases g6 n' hn' with h | ⟨so, sz, h⟩ | ⟨k, b, w, v, h⟩
      · exact Or.inl ⟨by rw [h1 _ _ (by omega)]; exact h.1, by rw [h1 _ _ (by omega)]; exact h.2⟩
      · obtain ⟨r1, r2, r3, r4, r5, r6, r7, r8⟩ := h
        exact Or.inr (Or.inl ⟨so, sz, r1, r2, by rw [h1 _ _ (by omega)]; exact r3, by rw [h1 _ _ (by omega)]; exact r4, by rw [h1 _ _ (by omega)]; exact r5, by rw [h1 _ _ (by omega)]; exact r6, by rw [h1 _ _ (by omega)]; exact r7, fun i hi => by rw [k1 i (by omega), k2 i (by omega)]; exact r8 i hi⟩)
      · obtain ⟨⟨l1, l2, l3, l4⟩, r2, r3, r4, r5, r6, r7⟩ := h
        exact Or.inr (Or.inr ⟨k, b, w, v, ⟨by rw [h1 _ _ (by omega)]; exact l1, by rw [h1 _ _ (by omega)]; exact l2, by rw [h1 _ _ (by omega)]; exact l3, l4⟩, r2, r3, by rw [h1 _ _ (by omega)]; exact r4, by rw [h1 _ _ (by omega)]; exact r5, by rw [h1 _ _ (by omega)]; exact r6, by rw [h1 _ _ (by omega)]; exact r7⟩)
  · rw [h1 _ _ (by omega), h1 _ _ (by omega)]; exact g7 k hk1 hk2
  · rw [h1 _ _ (by omega), h1 _ _ (by omega)]; exact g8
  · rw [h1 _ _ (by omega)]; exact g10 i hi
theorem sp_257 {q : Nat} {y : Int64} {P : pu_D → Prop} (hq : pu_cl q = 102) (hl : pu_ln q = 120) : pu_V X 257 [.ref q, .long y] D P = P (cw_ D q 0 (fun _ => y) 120) := by
  refine pu_V_of (pu_e257 hq ?_) P
  rw [hl]
  refine lo_ix (fun a x => pu_h257_6 X q y x (Int32.ofNat 120) a _) 120 (cw_ D q 0 (fun _ => y)) (fun i hi hh => ?_) ?_
  · refine pu_u257_6 hq ?_
    rw [if_pos (show nu_i i < Int32.ofNat 120 from nu_ltp (by omega) hi), nu_in (by omega), nu_ix (by omega), hl]
    rw [cw_, Nat.zero_add] at hh
    refine ⟨hi, ?_⟩
    rw [nu_addn]; exact hh
  · refine pu_u257_6 hq ?_
    rw [if_neg (show ¬ nu_i 120 < Int32.ofNat 120 from nu_ltx (by omega) (by omega))]
theorem mp_157L {n : Nat} {P : Int32 → pu_D → Prop} (hn : n < 8) (h : P 1 (cw_ D 108 (120 * n) (fun _ => Int64.ofNat 0) 120)) : pu_h157_78 X (nu_i n) 0 D P := by
  refine lo_ix (fun a x => pu_h157_78 X (nu_i n) x a P) 120 (cw_ D 108 (120 * n) (fun _ => Int64.ofNat 0)) (fun i hi hh => ?_) ?_
  · refine pu_u157_78 ?_
    rw [if_pos (show nu_i i < (120 : Int32) from nu_ltp (b := 120) (by omega) hi)]
    simp (disch := omega) only [nu_nmul, nu_add, nu_in, nu_ix, nu_addn]
    exact ⟨by omega, hh⟩
  · refine pu_u157_78 ?_
    rw [if_neg (show ¬ nu_i 120 < (120 : Int32) from nu_ltx (a := 120) (b := 120) (by omega) (by omega))]
    exact h
theorem oq_87 (h : rel_ D) {x1 x2 x3 : Int32} : op_ X D 87 [.ref 0, .int x1, .int x2, .int x3] 157 [.ref 85, .int x1, .int x2, .int x3] := by
  obtain ⟨S, hr⟩ := h
  refine pu_e87 ?_
  simp only [sp_138, sp_130_1, sp_130_4, sp_130_6, sp_130_7]
  by_cases c1 : rg_ x1 8
  · rw [nu_bT c1, if_neg (by decide)]
    by_cases h3 : x3 < 0
    · rw [if_pos h3]
      refine pu_e157 ?_
      rw [mp_151, nu_bT c1, if_neg (by decide), if_pos h3, mp_149_4]; exact ⟨rfl, S, rx_rf hr⟩
    rw [if_neg h3]
    by_cases h2 : x2 < 0
    · rw [if_pos h2]
      refine pu_e157 ?_
      rw [mp_151, nu_bT c1, if_neg (by decide), if_neg h3, if_pos h2, mp_149_6]; exact ⟨rfl, S, rx_rf hr⟩
    rw [if_neg h2]
    by_cases h4 : 3 < x2
    · rw [if_pos h4]
      refine pu_e157 ?_
      rw [mp_151, nu_bT c1, if_neg (by decide), if_neg h3, if_neg h2, if_pos h4, mp_149_6]; exact ⟨rfl, S, rx_rf hr⟩
    rw [if_neg h4]
    by_cases h5 : 120 < x3
    · rw [if_pos h5]
      refine pu_e157 ?_
      rw [mp_151, nu_bT c1, if_neg (by decide), if_neg h3, if_neg h2, if_neg h4, if_pos h5, mp_149_7]; exact ⟨rfl, S, rx_rf hr⟩
    rw [if_neg h5]
    obtain ⟨n, hn, rfl⟩ := rg_e (by omega) c1
    obtain ⟨so, -, hso, rfl⟩ := rb_e (lo := 0) (hi := 3) (by omega) (by omega) ⟨h2, h4⟩
    obtain ⟨sz, -, hsz, rfl⟩ := rb_e (lo := 0) (hi := 120) (by omega) (by omega) ⟨h3, h5⟩
    obtain ⟨s1, s2, s3⟩ := sv_ hn
    obtain ⟨s4, s5⟩ := sw_ hn
    rw [nu_in (by omega), nu_ix (by omega), s1]
    refine ⟨hn, pu_e35 s2 ?_⟩
    rw [s3, sp_257 s5 s4, if_neg h5]
    have ec : (if 0 < nu_i sz then nu_i sz else 0) = nu_i sz := by
      split
      · rfl
      · rename_i z
        have : sz = 0 := by
          rcases Nat.eq_zero_or_pos sz with h | h
          · exact h
          · exact absurd (nu_ltp (a := 0) (by omega) h) z
        subst this; rfl
    rw [ec]
    refine pu_e157 ?_
    rw [mp_151, nu_bT c1, if_neg (by decide), if_neg h3, if_neg h2, if_neg h4, if_neg h5, nu_in (by omega), nu_ix (by omega)]
    refine ⟨hn, hn, hn, mp_157L hn ⟨rfl, S, rx_sh hr hn (fun q j z => ?_) (fun n' hn' hne => ⟨fun i hi => ?_, fun i hi => ?_⟩) (Or.inr (Or.inl ⟨so, sz, by omega, hsz, ?_, ?_, ?_, ?_, ?_, fun i hi => ?_⟩))⟩⟩
    · rw [cw_1, wi_if, if_neg (by omega), wi_if, if_neg (by omega), wi_if, if_neg (by omega), cw_1, wi_if, if_neg (by omega), wi_if, if_neg (by omega)]
    · rw [cw_2, if_neg (by omega), wi_2, wi_2, wi_2, cw_2, if_neg (by omega)]; rfl
    · rw [cw_2, if_neg (by omega), wi_2, wi_2, wi_2, cw_2, if_neg (by omega)]; rfl
    · rw [cw_1, wi_q (by omega), wi_q (by omega), wi_eq]
    · rw [cw_1, wi_q (by omega), wi_eq]
    · rw [cw_1, wi_q (by omega), wi_q (by omega), wi_q (by omega), cw_1, wi_j (by omega), wi_eq]; exact nu_add 100 so
    · rw [cw_1, wi_eq]
    · rw [cw_1, wi_q (by omega), wi_q (by omega), wi_q (by omega), cw_1, wi_eq]
    · rw [cw_2, if_neg (by omega), wi_2, wi_2, wi_2, cw_2, if_pos (by omega), cw_2, if_pos (by omega)]
  · rw [nu_bF c1, if_pos rfl]
    refine pu_e157 ?_
    rw [mp_151, nu_bF c1, if_pos rfl, mp_149_1]; exact ⟨rfl, S, rx_rf hr⟩
end ST
