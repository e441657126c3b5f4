/-! THE SHELVES: elements copied. -/
theorem nu_sx {a c sz : Nat} (ha : a < 2147483648) (hc : c < 2147483648) (hs : sz ≤ 120) : (nu_i sz - nu_i c < nu_i a) = ((sz : Int) - c < a) := by
  have t1 := nu_toI ha
  have t2 := nu_toI hc
  have t3 := nu_toI (k := sz) (by omega)
  have u3 : (nu_i sz - nu_i c).toInt = (sz : Int) - c := by
    rw [Int32.toInt_sub, t3, t2, Int.bmod_def]
    split <;> omega
  rw [Int32.lt_iff_toInt_lt, u3, t1]
section ST
variable {X : px_X} {S : Nat → Nat → Nat → Nat} {D : pu_D}
theorem mp_159a {n1 n2 p r c : Nat} {P : Int32 → pu_D → Prop} (h1 : n1 < 8) (h2 : n2 < 8) (hp : p + c ≤ 120) (hr : r + c ≤ 120) (h : P 1 (cw_ (cw_ D 109 0 (fun i => D.2 108 (120 * n1 + p + i)) c) 108 (120 * n2 + r) (fun i => (cw_ D 109 0 (fun i => D.2 108 (120 * n1 + p + i)) c).2 109 i) c)) : pu_h159_167 X (nu_i n1) (nu_i n2) (nu_i p) (nu_i r) (nu_i c) 0 D P := by
  refine lo_ix (fun a x => pu_h159_167 X (nu_i n1) (nu_i n2) (nu_i p) (nu_i r) (nu_i c) x a P) c (cw_ D 109 0 (fun i => D.2 108 (120 * n1 + p + i))) (fun i hi hh => ?_) ?_
  · refine pu_u159_167 ?_
    rw [if_pos (nu_ltp (by omega) hi)]
    simp (disch := omega) only [nu_nmul, nu_add, nu_in, nu_ix, nu_addn]
    rw [cw_2, if_neg (by omega)]
    rw [cw_, Nat.zero_add] at hh
    exact ⟨by omega, by omega, hh⟩
  · refine pu_u159_167 ?_
    rw [if_neg (nu_ltx (by omega) (by omega))]
    generalize cw_ D 109 0 (fun i => D.2 108 (120 * n1 + p + i)) c = D2 at *
    refine lo_ix (fun a x => pu_h159_204 X (nu_i n2) (nu_i r) (nu_i c) x a P) c (cw_ D2 108 (120 * n2 + r) (fun i => D2.2 109 i)) (fun i hi hh => ?_) ?_
    · refine pu_u159_204 ?_
      rw [if_pos (nu_ltp (by omega) hi)]
      simp (disch := omega) only [nu_nmul, nu_add, nu_in, nu_ix, nu_addn]
      rw [cw_2, if_neg (by omega)]
      rw [cw_] at hh
      exact ⟨by omega, by omega, hh⟩
    · refine pu_u159_204 ?_
      rw [if_neg (nu_ltx (by omega) (by omega))]
      exact h
theorem rl_ {D : pu_D} {q q' j : Nat} {f : Nat → Int64} : ((D.1, px_rowL D.2 q f) : pu_D).2 q' j = if q' = q then f j else D.2 q' j := by
  show px_rowL D.2 q f q' j = _
  unfold px_rowL
  split <;> rfl
theorem oq_89 (h : rel_ D) {x1 x2 x3 x4 x5 : Int32} : op_ X D 89 [.ref 0, .int x1, .int x2, .int x3, .int x4, .int x5] 159 [.ref 85, .int x1, .int x2, .int x3, .int x4, .int x5] := by
  obtain ⟨S, hr⟩ := h
  obtain ⟨hW, hC, hM, -, -, hS, -⟩ := id hr
  by_cases c1 : rg_ x1 8
  · by_cases c2 : rg_ x2 8
    · obtain ⟨n1, hn1, rfl⟩ := rg_e (by omega) c1
      obtain ⟨n2, hn2, rfl⟩ := rg_e (by omega) c2
      obtain ⟨s1, s2, s3⟩ := sv_ hn1
      obtain ⟨t1, t2, t3⟩ := sv_ hn2
      have e103 : ∀ k n q, 103 ≤ q → q ≤ 107 → (rf_ D k).1 q n = D.1 q n := fun k n q z1 z2 => wi_q (by omega)
      have i1 : (px_in (nu_i n1) 8 = true) := by rw [nu_in (by omega)]; exact hn1
      have i2 : (px_in (nu_i n2) 8 = true) := by rw [nu_in (by omega)]; exact hn2
      have x1' : (nu_i n1).toNatClampNeg = n1 := nu_ix (by omega)
      have x2' : (nu_i n2).toNatClampNeg = n2 := nu_ix (by omega)
      have m2 : (D.1 103 n1 = 2 ∨ D.1 103 n2 = 2 ∨ (D.1 103 n1 = 1 ∧ D.1 103 n2 = 1 ∧ ¬ D.1 104 n1 = D.1 104 n2)) → pu_I X 159 [.ref 85, .int (nu_i n1), .int (nu_i n2), .int x3, .int x4, .int x5] (rf_ D 2) (fun y2 D2 => -2 = y2 ∧ rel_ D2) := fun z => by
        refine pu_e159 ?_
        rw [mp_151, nu_bT c1, if_neg (by decide), mp_151, nu_bT c2, if_neg (by decide), x1', x2']
        rw [e103 2 n1 103 (by omega) (by omega), e103 2 n2 103 (by omega) (by omega), e103 2 n1 104 (by omega) (by omega), e103 2 n2 104 (by omega) (by omega)]
        refine ⟨i1, ?_⟩
        by_cases z1 : D.1 103 n1 = 2
        · rw [if_pos z1, mp_149_2]; exact ⟨rfl, S, rx_rf hr⟩
        rw [if_neg z1]
        refine ⟨i2, ?_⟩
        by_cases z2 : D.1 103 n2 = 2
        · rw [if_pos z2, mp_149_2]; exact ⟨rfl, S, rx_rf hr⟩
        rw [if_neg z2]
        have z3 := (z.resolve_left z1).resolve_left z2
        rw [if_pos z3.1, if_pos z3.2.1, if_neg z3.2.2, mp_149_2]
        exact ⟨i1, i2, i1, i2, rfl, S, rx_rf hr⟩
      have m3 : ¬ D.1 103 n1 = 2 → ¬ D.1 103 n2 = 2 → (D.1 103 n1 = 0 ∨ D.1 103 n2 = 0) → pu_I X 159 [.ref 85, .int (nu_i n1), .int (nu_i n2), .int x3, .int x4, .int x5] (rf_ D 3) (fun y2 D2 => -3 = y2 ∧ rel_ D2) := fun z0 z1 z => by
        have fin : -3 = (-3 : Int32) ∧ rel_ (rn_ (rf_ D 3) 3) := ⟨rfl, S, rx_rf hr⟩
        refine pu_e159 ?_
        rw [mp_151, nu_bT c1, if_neg (by decide), mp_151, nu_bT c2, if_neg (by decide), x1', x2']
        rw [e103 3 n1 103 (by omega) (by omega), e103 3 n2 103 (by omega) (by omega)]
        rw [if_neg z0, if_neg z1]
        refine ⟨i1, i2, i1, ?_⟩
        by_cases z3 : D.1 103 n1 = 0
        · have z4 : ¬ D.1 103 n1 = 1 := by rw [z3]; decide
          rw [if_neg z4, if_pos z3, mp_149_3]; exact ⟨i1, fin⟩
        · have z5 := z.resolve_left z3
          have z4 : ¬ D.1 103 n2 = 1 := by rw [z5]; decide
          rw [if_neg z4, if_pos z5, if_neg z3, mp_149_3]
          by_cases z6 : D.1 103 n1 = 1
          · rw [if_pos z6]; exact ⟨i2, i1, i2, fin⟩
          · rw [if_neg z6]; exact ⟨i1, i2, fin⟩
      refine pu_e89 ?_
      rw [sp_138, nu_bT c1, if_neg (by decide), sp_138, nu_bT c2, if_neg (by decide), x1', x2', s1, t1]
      simp only [sp_130_2, sp_130_3, sp_130_4, sp_130_5]
      refine ⟨i1, i2, ?_⟩
      rcases hS n1 hn1 with h1 | ⟨so1, sz1, h1⟩ | ⟨k1, a1, w1, v1, h1⟩
      · rw [(sh_no hn1 h1).2, if_pos rfl]
        have d1 : ¬ D.1 103 n1 = 2 := by rw [h1.1]; decide
        rcases hS n2 hn2 with h2 | ⟨so2, sz2, h2⟩ | ⟨k2, a2, w2, v2, h2⟩
        · rw [(sh_no hn2 h2).2, if_pos rfl, (sh_no hn1 h1).1, if_pos rfl, (sh_no hn1 h1).1, if_pos rfl]; exact m3 d1 (by rw [h2.1]; decide) (Or.inl h1.1)
        · rw [(sh_ro hn2 h2).2, if_pos rfl, (sh_no hn1 h1).1, if_pos rfl, (sh_no hn1 h1).1, if_pos rfl]; exact m3 d1 (by rw [h2.2.2.1]; decide) (Or.inl h1.1)
        · rw [(sh_la hn2 h2).2, if_neg (by decide)]; exact m2 (Or.inr (Or.inl h2.2.2.2.1))
      · rw [(sh_ro hn1 h1).2, if_pos rfl]
        have d1 : ¬ D.1 103 n1 = 2 := by rw [h1.2.2.1]; decide
        have d0 : ¬ D.1 103 n1 = 0 := by rw [h1.2.2.1]; decide
        rcases hS n2 hn2 with h2 | ⟨so2, sz2, h2⟩ | ⟨k2, a2, w2, v2, h2⟩
        · rw [(sh_no hn2 h2).2, if_pos rfl, (sh_ro hn1 h1).1, if_neg (by decide), (sh_no hn2 h2).1, if_pos rfl, (sh_ro hn1 h1).1, if_neg (by decide), (sh_no hn2 h2).1, if_pos rfl]; exact m3 d1 (by rw [h2.1]; decide) (Or.inr h2.1)
        · have d2 : ¬ D.1 103 n2 = 2 := by rw [h2.2.2.1]; decide
          have d3 : ¬ D.1 103 n2 = 0 := by rw [h2.2.2.1]; decide
          obtain ⟨r1, r2, r3, r4, r5, r6, r7, r8⟩ := id h1
          obtain ⟨u1, u2, u3, u4, u5, u6, u7, u8⟩ := id h2
          rw [(sh_ro hn2 h2).2, if_pos rfl, (sh_ro hn1 h1).1, if_neg (by decide), (sh_ro hn2 h2).1, if_neg (by decide), r5, u5]
          by_cases hso : so1 = so2
          · rw [if_pos (by rw [hso]), (sh_ro hn1 h1).1, if_neg (by decide), (sh_ro hn2 h2).1, if_neg (by decide)]
            -- the reference past its head
            have m : ∀ {Q : Int32 → pu_D → Prop} (D1 : pu_D), (∀ q, 103 ≤ q → q ≤ 107 → ∀ n, D1.1 q n = D.1 q n) → (if x5 < 0 then pu_I X 149 [.ref 85, .int (-4)] D1 Q else if x3 < 0 then pu_I X 149 [.ref 85, .int (-5)] D1 Q else if x4 < 0 then pu_I X 149 [.ref 85, .int (-5)] D1 Q else if nu_i sz1 - x5 < x3 then pu_I X 149 [.ref 85, .int (-5)] D1 Q else if nu_i sz2 - x5 < x4 then pu_I X 149 [.ref 85, .int (-5)] D1 Q else pu_h159_167 X (nu_i n1) (nu_i n2) x3 x4 x5 0 D1 Q) → pu_I X 159 [.ref 85, .int (nu_i n1), .int (nu_i n2), .int x3, .int x4, .int x5] D1 Q := by
              intro Q D1 hD1 hq
              refine pu_e159 ?_
              rw [mp_151, nu_bT c1, if_neg (by decide), mp_151, nu_bT c2, if_neg (by decide), x1', x2']
              rw [hD1 103 (by omega) (by omega) n1, hD1 103 (by omega) (by omega) n2, hD1 104 (by omega) (by omega) n1, hD1 104 (by omega) (by omega) n2, hD1 105 (by omega) (by omega) n1, hD1 105 (by omega) (by omega) n2]
              rw [if_neg d1, if_neg d2, if_pos r3, if_pos u3, if_pos (by rw [r4, u4, hso]), if_neg d0, if_neg d3, r6, u6]
              refine ⟨i1, i2, i1, i2, i1, i2, i1, i2, ?_⟩
              by_cases b1 : x5 < 0
              · rw [if_pos b1] at hq ⊢; exact hq
              rw [if_neg b1] at hq ⊢
              by_cases b2 : x3 < 0
              · rw [if_pos b2] at hq ⊢; exact hq
              rw [if_neg b2] at hq ⊢
              by_cases b3 : x4 < 0
              · rw [if_pos b3] at hq ⊢; exact hq
              rw [if_neg b3] at hq ⊢
              refine ⟨i1, ?_⟩
              by_cases b4 : nu_i sz1 - x5 < x3
              · rw [if_pos b4] at hq ⊢; exact hq
              rw [if_neg b4] at hq ⊢
              refine ⟨i2, ?_⟩
              by_cases b5 : nu_i sz2 - x5 < x4
              · rw [if_pos b5] at hq ⊢; exact hq
              rw [if_neg b5] at hq ⊢
              exact hq
            have m5 : (¬ x5 < 0 ∧ (x3 < 0 ∨ x4 < 0 ∨ nu_i sz1 - x5 < x3 ∨ nu_i sz2 - x5 < x4)) → pu_I X 159 [.ref 85, .int (nu_i n1), .int (nu_i n2), .int x3, .int x4, .int x5] (rf_ D 5) (fun y2 D2 => -5 = y2 ∧ rel_ D2) := by
              intro ⟨b1, hb⟩
              have fin : True ∧ rel_ (rn_ (rf_ D 5) 5) := ⟨trivial, S, rx_rf hr⟩
              refine m (rf_ D 5) (fun q z1 z2 n => e103 5 n q z1 z2) ?_
              simp only [mp_149_5]
              rw [if_neg b1]
              by_cases b2 : x3 < 0
              · rw [if_pos b2]; exact fin
              rw [if_neg b2]
              by_cases b3 : x4 < 0
              · rw [if_pos b3]; exact fin
              rw [if_neg b3]
              by_cases b4 : nu_i sz1 - x5 < x3
              · rw [if_pos b4]; exact fin
              rw [if_neg b4, if_pos (((hb.resolve_left b2).resolve_left b3).resolve_left b4)]; exact fin
            by_cases b1 : x5 < 0
            · rw [if_pos b1]
              refine m (rf_ D 4) (fun q z1 z2 n => e103 4 n q z1 z2) ?_
              rw [if_pos b1, mp_149_4]; exact ⟨rfl, S, rx_rf hr⟩
            rw [if_neg b1]
            obtain ⟨c, hc, rfl⟩ : ∃ c, c < 2147483648 ∧ x5 = nu_i c := ⟨_, nu_geb x5, nu_ge b1⟩
            rw [sp_38 s2 r7 r2 hc]
            by_cases g1 : ¬ x3 < 0 ∧ ¬ nu_i sz1 - nu_i c < x3
            · rw [nu_bT g1, if_neg (by decide), sp_38 t2 u7 u2 hc]
              by_cases g2 : ¬ x4 < 0 ∧ ¬ nu_i sz2 - nu_i c < x4
              · rw [nu_bT g2, if_neg (by decide), s3, t3]
                obtain ⟨p, hp, rfl⟩ : ∃ p, p < 2147483648 ∧ x3 = nu_i p := ⟨_, nu_geb x3, nu_ge g1.1⟩
                obtain ⟨r, hrr, rfl⟩ : ∃ r, r < 2147483648 ∧ x4 = nu_i r := ⟨_, nu_geb x4, nu_ge g2.1⟩
                have q1 := g1.2
                have q2 := g2.2
                rw [nu_sx hp hc r2] at q1
                rw [nu_sx hrr hc u2] at q2
                have l1 := (sw_ hn1).1
                have l2 := (sw_ hn2).1
                refine ⟨⟨g1.1, g2.1, b1, ?_, ?_⟩, ?_⟩
                · rw [nu_ix hp, nu_ix hc, l1]; omega
                · rw [nu_ix hrr, nu_ix hc, l2]; omega
                refine m (pu_cpL D (70 + 2 * n1) (70 + 2 * n2) (nu_i p) (nu_i r) (nu_i c)) (fun q z1 z2 n => rfl) ?_
                rw [if_neg b1, if_neg g1.1, if_neg g2.1, if_neg g1.2, if_neg g2.2]
                unfold pu_cpL
                rw [nu_ix hp, nu_ix hrr, nu_ix hc]
                refine mp_159a hn1 hn2 (by omega) (by omega) ⟨rfl, S, rx_sh hr hn2 (fun q j z => ?_) (fun n' hn' hne => ⟨fun i hi => ?_, fun i hi => ?_⟩) (Or.inr (Or.inl ⟨so2, sz2, u1, u2, ?_, ?_, ?_, ?_, ?_, fun i hi => ?_⟩))⟩
                · rw [cw_1, cw_1]
                · rw [cw_2, if_neg (by omega), cw_2, if_neg (by omega), rl_, if_neg (by omega)]
                · rw [cw_2, if_neg (by omega), cw_2, if_neg (by omega), rl_, if_neg (by omega)]
                · rw [cw_1, cw_1]; exact u3
                · rw [cw_1, cw_1]; exact u4
                · rw [cw_1, cw_1]; exact u5
                · rw [cw_1, cw_1]; exact u6
                · rw [cw_1, cw_1]; exact u7
                · rw [cw_2, if_neg (by omega), cw_2, if_neg (by omega), rl_, if_pos rfl]
                  unfold va_cpy
                  by_cases gi : r ≤ i ∧ i < r + c
                  · rw [if_pos gi, cw_2, if_pos (by omega), cw_2, if_pos (by omega), rl_, if_neg (by omega), r8 _ (by omega)]
                    exact congrArg (D.2 108) (by omega)
                  · rw [if_neg gi, cw_2, if_neg (by omega), cw_2, if_neg (by omega), rl_, if_neg (by omega)]
                    exact u8 i hi
              · rw [nu_bF g2, if_pos rfl]
                refine m5 ⟨b1, ?_⟩
                by_cases z : x4 < 0
                · exact Or.inr (Or.inl z)
                · exact Or.inr (Or.inr (Or.inr (Decidable.byContradiction fun y => g2 ⟨z, y⟩)))
            · rw [nu_bF g1, if_pos rfl]
              refine m5 ⟨b1, ?_⟩
              by_cases z : x3 < 0
              · exact Or.inl z
              · exact Or.inr (Or.inr (Or.inl (Decidable.byContradiction fun y => g1 ⟨z, y⟩)))
          · rw [if_neg (by rw [nu_eq (by omega) (by omega)]; omega)]
            exact m2 (Or.inr (Or.inr ⟨r3, u3, by rw [r4, u4, nu_eq (by omega) (by omega)]; exact hso⟩))
        · rw [(sh_la hn2 h2).2, if_neg (by decide)]; exact m2 (Or.inr (Or.inl h2.2.2.2.1))
      · rw [(sh_la hn1 h1).2, if_neg (by decide)]; exact m2 (Or.inl h1.2.2.2.1)
    · refine pu_e89 ?_
      rw [sp_138, nu_bT c1, if_neg (by decide), sp_138, nu_bF c2, if_pos rfl, sp_130_1]
      refine pu_e159 ?_
      rw [mp_151, nu_bT c1, if_neg (by decide), mp_151, nu_bF c2, if_pos rfl, mp_149_1]; exact ⟨rfl, S, rx_rf hr⟩
  · refine pu_e89 ?_
    rw [sp_138, nu_bF c1, if_pos rfl, sp_130_1]
    refine pu_e159 ?_
    rw [mp_151, nu_bF c1, if_pos rfl, mp_149_1]; exact ⟨rfl, S, rx_rf hr⟩
end ST
