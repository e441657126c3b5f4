/-! THE SHELVES: judged; elements copied. -/
theorem nu_toI {k : Nat} (hk : k < 2147483648) : (nu_i k).toInt = (k : Int) := Int32.toInt_ofNat_of_lt hk
theorem lg_38 {a c sz : Nat} (ha : a < 2147483648) (hc : c < 2147483648) (hs : sz ≤ 120) : (0 < lg_cmp (Int32.toInt64 (nu_i a) + Int32.toInt64 (nu_i c)) (Int32.toInt64 (nu_i sz))) = (nu_i sz - nu_i c < nu_i a) := by
  have t1 := nu_toI ha
  have t2 := nu_toI hc
  have t3 := nu_toI (k := sz) (by omega)
  have u1 : (Int32.toInt64 (nu_i a) + Int32.toInt64 (nu_i c)).toInt = (a : Int) + c := by
    rw [Int64.toInt_add, Int32.toInt_toInt64, Int32.toInt_toInt64, t1, t2, Int.bmod_def]
    split <;> omega
  have u2 : (Int32.toInt64 (nu_i sz)).toInt = (sz : Int) := by rw [Int32.toInt_toInt64, t3]
  have u3 : (nu_i sz - nu_i c).toInt = (sz : Int) - c := by
    rw [Int32.toInt_sub, t3, t2, Int.bmod_def]
    split <;> omega
  have e : (nu_i sz - nu_i c < nu_i a) = ((sz : Int) - c < a) := by rw [Int32.lt_iff_toInt_lt, u3, t1]
  rw [e]
  unfold lg_cmp
  by_cases h1 : Int32.toInt64 (nu_i a) + Int32.toInt64 (nu_i c) > Int32.toInt64 (nu_i sz)
  · rw [if_pos h1]
    have g := Int64.lt_iff_toInt_lt.mp h1
    rw [u1, u2] at g
    exact propext ⟨fun _ => by omega, fun _ => by decide⟩
  · rw [if_neg h1]
    have g : ¬ (sz : Int) < (a : Int) + c := fun z => h1 (Int64.lt_iff_toInt_lt.mpr (by rw [u1, u2]; exact z))
    refine propext ⟨fun z => ?_, fun z => absurd (show (sz : Int) < (a : Int) + c by omega) g⟩
    split at z
    · exact absurd z (by decide)
    · exact absurd z (by decide)
section ST
variable {X : px_X} {S : Nat → Nat → Nat → Nat} {D : pu_D}
theorem sp_38 {q c sz : Nat} {x : Int32} {P : Int32 → pu_D → Prop} (hq : pu_cl q = 3) (h : D.1 q 2 = nu_i sz) (hs : sz ≤ 120) (hc : c < 2147483648) : pu_I X 38 [.ref q, .int x, .int (nu_i c)] D P = P (nu_b (¬ x < 0 ∧ ¬ nu_i sz - nu_i c < x)) D := by
  refine pu_I_of (pu_e38 hq ?_) P
  rw [h]
  by_cases h1 : x < 0
  · rw [if_pos h1, nu_bF (fun z => z.1 h1)]; exact ⟨rfl, rfl⟩
  rw [if_neg h1, if_neg (by rw [nu_lt0 hc]; exact fun z => z)]
  have hx := nu_ge h1
  have hb := nu_geb x
  generalize x.toNatClampNeg = a at hx hb
  subst hx
  by_cases h2 : nu_i sz - nu_i c < nu_i a
  · rw [if_pos (by rw [lg_38 hb hc hs]; exact h2), nu_bF (fun z => z.2 h2)]; exact ⟨rfl, rfl⟩
  · rw [if_neg (by rw [lg_38 hb hc hs]; exact h2), nu_bT ⟨h1, h2⟩]; exact ⟨rfl, rfl⟩
theorem h124_imp {x3 : Int32} {q4 q5 : Nat} {x6 : Int32} {P P' : Int32 → pu_D → Prop} (h : pu_h124_99 X x3 q4 q5 x6 D P) (hP : ∀ y D', P y D' → P' y D') : pu_h124_99 X x3 q4 q5 x6 D P' := fun z1 h1 z2 h2 => pu_W_imp (h z1 h1 z2 h2) fun _ _ ⟨y, e, hp⟩ => ⟨y, e, hP _ _ hp⟩
theorem h235_imp {x1 x2 x3 x4 : Int32} {P P' : Int32 → pu_D → Prop} (h : pu_h235_92 X x1 x2 x3 x4 D P) (hP : ∀ y D', P y D' → P' y D') : pu_h235_92 X x1 x2 x3 x4 D P' := fun z1 h1 => pu_W_imp (h z1 h1) fun _ _ ⟨y, e, hp⟩ => ⟨y, e, hP _ _ hp⟩
theorem oq_124 (h : rel_ D) {x1 x2 x3 : Int32} : op_ X D 124 [.ref 0, .int x1, .int x2, .int x3] 235 [.ref 85, .int x1, .int x2, .int x3] := by
  obtain ⟨S, hr⟩ := h
  obtain ⟨hW, hC, hM, -, -, hS, -⟩ := id hr
  by_cases c1 : rg_ x1 8
  · by_cases c2 : rg_ x2 8
    · obtain ⟨n1, hn1, rfl⟩ := rg_e (by omega) c1
      obtain ⟨n2, hn2, rfl⟩ := rg_e (by omega) c2
      obtain ⟨s1, s2, s3⟩ := sv_ hn1
      obtain ⟨t1, t2, t3⟩ := sv_ hn2
      have e103 : ∀ k n, (rf_ D k).1 103 n = D.1 103 n := fun k n => wi_q (by omega)
      have i1 : (px_in (nu_i n1) 8 = true) := by rw [nu_in (by omega)]; exact hn1
      have i2 : (px_in (nu_i n2) 8 = true) := by rw [nu_in (by omega)]; exact hn2
      have x1' : (nu_i n1).toNatClampNeg = n1 := nu_ix (by omega)
      have x2' : (nu_i n2).toNatClampNeg = n2 := nu_ix (by omega)
      -- the reference's head
      have m2a : D.1 103 n1 = 1 → pu_I X 235 [.ref 85, .int (nu_i n1), .int (nu_i n2), .int x3] (rf_ D 2) (fun y2 D2 => -12 = y2 ∧ rel_ D2) := fun z => by
        refine pu_e235 ?_
        rw [mp_151, nu_bT c1, if_neg (by decide), mp_151, nu_bT c2, if_neg (by decide), x1', e103, z, if_pos rfl, mp_150_2]
        exact ⟨i1, rfl, S, rx_rf hr⟩
      have m2b : ¬ D.1 103 n1 = 1 → D.1 103 n2 = 2 → pu_I X 235 [.ref 85, .int (nu_i n1), .int (nu_i n2), .int x3] (rf_ D 2) (fun y2 D2 => -12 = y2 ∧ rel_ D2) := fun z0 z => by
        refine pu_e235 ?_
        rw [mp_151, nu_bT c1, if_neg (by decide), mp_151, nu_bT c2, if_neg (by decide), x1', x2', e103, e103, if_neg z0, z, if_pos rfl, mp_150_2]
        exact ⟨i1, i2, rfl, S, rx_rf hr⟩
      have m3 : ¬ D.1 103 n1 = 1 → ¬ D.1 103 n2 = 2 → (D.1 103 n1 = 0 ∨ D.1 103 n2 = 0) → pu_I X 235 [.ref 85, .int (nu_i n1), .int (nu_i n2), .int x3] (rf_ D 3) (fun y2 D2 => -13 = y2 ∧ rel_ D2) := fun z0 z1 z => by
        refine pu_e235 ?_
        rw [mp_151, nu_bT c1, if_neg (by decide), mp_151, nu_bT c2, if_neg (by decide), x1', x2', e103, e103, if_neg z0, if_neg z1]
        refine ⟨i1, i2, i1, ?_⟩
        by_cases z3 : D.1 103 n1 = 0
        · rw [if_pos z3, mp_150_3]; exact ⟨rfl, S, rx_rf hr⟩
        · rw [if_neg z3, if_pos (z.resolve_left z3), mp_150_3]; exact ⟨i2, rfl, S, rx_rf hr⟩
      refine pu_e124 ?_
      rw [sp_138, nu_bT c1, if_neg (by decide), sp_138, nu_bT c2, if_neg (by decide), x1', x2', s1, t1]
      simp only [sp_131_2, sp_131_3, sp_131_6]
      refine ⟨i1, i2, ?_⟩
      rcases hS n1 hn1 with h1 | ⟨so1, sz1, h1⟩ | ⟨k1, a1, w1, v1, h1⟩
      · rw [(sh_no hn1 h1).1, if_pos rfl]
        have d1 : ¬ D.1 103 n1 = 1 := by rw [h1.1]; decide
        rcases hS n2 hn2 with h2 | ⟨so2, sz2, h2⟩ | ⟨k2, a2, w2, v2, h2⟩
        · rw [(sh_no hn2 h2).2, if_pos rfl, (sh_no hn1 h1).2, if_pos rfl]; exact m3 d1 (by rw [h2.1]; decide) (Or.inl h1.1)
        · rw [(sh_ro hn2 h2).2, if_pos rfl, (sh_no hn1 h1).2, if_pos rfl]; exact m3 d1 (by rw [h2.2.2.1]; decide) (Or.inl h1.1)
        · rw [(sh_la hn2 h2).2, if_neg (by decide)]; exact m2b d1 h2.2.2.2.1
      · rw [(sh_ro hn1 h1).1, if_neg (by decide)]; exact m2a h1.2.2.1
      · rw [(sh_la hn1 h1).1, if_pos rfl]
        have d1 : ¬ D.1 103 n1 = 1 := by rw [h1.2.2.2.1]; decide
        have d0 : ¬ D.1 103 n1 = 0 := by rw [h1.2.2.2.1]; decide
        rcases hS n2 hn2 with h2 | ⟨so2, sz2, h2⟩ | ⟨k2, a2, w2, v2, h2⟩
        · rw [(sh_no hn2 h2).2, if_pos rfl, (sh_la hn1 h1).2, if_neg (by decide), (sh_no hn2 h2).1, if_pos rfl]; exact m3 d1 (by rw [h2.1]; decide) (Or.inr h2.1)
        · rw [(sh_ro hn2 h2).2, if_pos rfl, (sh_la hn1 h1).2, if_neg (by decide), (sh_ro hn2 h2).1, if_neg (by decide), sp_140b]
          have d2 : ¬ D.1 103 n2 = 2 := by rw [h2.2.2.1]; decide
          have d3 : ¬ D.1 103 n2 = 0 := by rw [h2.2.2.1]; decide
          by_cases c3 : rg_ x3 12
          · obtain ⟨m, hm, rfl⟩ := rg_e (by omega) c3
            obtain ⟨L1, L2⟩ := oq_124L (X := X) hr hn1 hn2 h1 h2 hm (N := 120) rfl
            rw [nu_bT c3, if_neg (by decide)]
            refine h124_imp L1 fun y1 D1 ⟨e1, e2⟩ => ?_
            rw [e1]
            refine pu_e235 ?_
            rw [mp_151, nu_bT c1, if_neg (by decide), mp_151, nu_bT c2, if_neg (by decide), x1', x2', if_neg d1, if_neg d2, if_neg d0, if_neg d3, mp_156, nu_bT c3, if_neg (by decide)]
            exact ⟨i1, i2, i1, i2, h235_imp L2 fun y2 D2 ⟨g1, g2⟩ => ⟨e2.trans g2.symm, g1 ▸ ⟨S, hr⟩⟩⟩
          · rw [nu_bF c3, if_pos rfl]
            refine pu_e235 ?_
            rw [mp_151, nu_bT c1, if_neg (by decide), mp_151, nu_bT c2, if_neg (by decide), x1', x2', e103, e103, if_neg d1, if_neg d2, if_neg d0, if_neg d3, mp_156, nu_bF c3, if_pos rfl, mp_150_6]
            exact ⟨i1, i2, i1, i2, rfl, S, rx_rf hr⟩
        · rw [(sh_la hn2 h2).2, if_neg (by decide)]; exact m2b d1 h2.2.2.2.1
    · refine pu_e124 ?_
      rw [sp_138, nu_bT c1, if_neg (by decide), sp_138, nu_bF c2, if_pos rfl, sp_131_1]
      refine pu_e235 ?_
      rw [mp_151, nu_bT c1, if_neg (by decide), mp_151, nu_bF c2, if_pos rfl, mp_150_1]; exact ⟨rfl, S, rx_rf hr⟩
  · refine pu_e124 ?_
    rw [sp_138, nu_bF c1, if_pos rfl, sp_131_1]
    refine pu_e235 ?_
    rw [mp_151, nu_bF c1, if_pos rfl, mp_150_1]; exact ⟨rfl, S, rx_rf hr⟩
end ST
