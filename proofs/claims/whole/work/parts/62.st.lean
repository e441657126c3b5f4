/-! STATUS on both sides. -/
theorem nu_andn {a b : Nat} (ha : a < 512) : nu_i a &&& (nu_i b ^^^ (-1 : Int32)) = nu_i (a &&& (511 ^^^ b)) := by
  unfold nu_i
  apply Int32.toBitVec.inj
  have h1 : (Int32.ofNat a &&& (Int32.ofNat b ^^^ (-1 : Int32))).toBitVec = BitVec.ofNat 32 a &&& (BitVec.ofNat 32 b ^^^ BitVec.allOnes 32) := rfl
  rw [h1]
  show _ = BitVec.ofNat 32 _
  apply BitVec.eq_of_getLsbD_eq
  intro i hi
  simp only [BitVec.getLsbD_and, BitVec.getLsbD_xor, BitVec.getLsbD_ofNat, BitVec.getLsbD_allOnes, hi, decide_true, Bool.true_and, Nat.testBit_and, Nat.testBit_xor]
  by_cases h9 : i < 9
  · have : (511 : Nat).testBit i = true := by
      rcases (show i = 0 ∨ i = 1 ∨ i = 2 ∨ i = 3 ∨ i = 4 ∨ i = 5 ∨ i = 6 ∨ i = 7 ∨ i = 8 by omega) with rfl | rfl | rfl | rfl | rfl | rfl | rfl | rfl | rfl <;> decide
    rw [this, Bool.xor_comm]
  · have : a.testBit i = false := Nat.testBit_lt_two_pow (Nat.lt_of_lt_of_le ha (show 2 ^ 9 ≤ 2 ^ i from Nat.pow_le_pow_right (by decide) (by omega)))
    rw [this]; rfl
theorem ct_tail {b : Nat → Bool} {n : Nat} : ∀ m, n ≤ m → (∀ i, n ≤ i → i < m → b i = false) → ct_ b m = ct_ b n := by
  intro m
  induction m with
  | zero => intro h _; rw [show n = 0 by omega]
  | succ m ih =>
    intro h hb
    by_cases e : n = m + 1
    · rw [e]
    · rw [ct_succ, if_neg (by rw [hb m (by omega) (by omega)]; decide)]
      exact ih (by omega) fun i h1 h2 => hb i h1 (by omega)
section ST
variable {X : px_X} {S : Nat → Nat → Nat → Nat} {D : pu_D}
/-- how many lamps do burn not -/
def dkl_ (S : Nat → Nat → Nat → Nat) : Nat := ct_ (fun p => !decide (S 1 p 2 = 0) && decide (S 1 p 3 = 1)) (S 8 0 1)
theorem di_pc (hW : wf_ S) : pc_ (lb_ S &&& (511 ^^^ bb_ S)) = dkl_ S := by
  have hn := wf_n hW
  unfold pc_ dkl_
  have hlb : lb_ S < 512 := bs_512 _ (by omega)
  have e : ∀ i, (lb_ S &&& (511 ^^^ bb_ S)).testBit i = (decide (i < 9) && (decide (i < S 8 0 1) && (!decide (S 1 i 2 = 0) && decide (S 1 i 3 = 1)))) := by
    intro i
    rw [Nat.testBit_and, Nat.testBit_xor]
    unfold lb_ bb_
    rw [bs_bit, bs_bit]
    unfold bu_
    by_cases h9 : i < 9
    · have : (511 : Nat).testBit i = true := by
        rcases (show i = 0 ∨ i = 1 ∨ i = 2 ∨ i = 3 ∨ i = 4 ∨ i = 5 ∨ i = 6 ∨ i = 7 ∨ i = 8 by omega) with rfl | rfl | rfl | rfl | rfl | rfl | rfl | rfl | rfl <;> decide
      rw [this]
      by_cases a1 : i < S 8 0 1 <;> by_cases a2 : S 1 i 2 = 0 <;> by_cases a3 : S 1 i 3 = 1 <;> simp [h9, a1, a2, a3]
    · have : ¬ i < S 8 0 1 := by omega
      simp [h9, this]
  rw [ct_tail (n := S 8 0 1) 9 (by omega) (fun i h1 h2 => by rw [e]; simp; omega)]
  refine ct_congr fun i hi => ?_
  rw [e]
  simp [hi, show i < 9 by omega]
theorem mp_246L (hM : re_M S D) (hW : wf_ S) {P : Int32 → pu_D → Prop} (h : P (nu_i (dkl_ S)) D) : pu_h246_99 X 0 0 D P := by
  have hn := wf_n hW
  refine lo_ix (fun a x => pu_h246_99 X (nu_i a) x D P) (S 8 0 1) (ct_ (fun p => !decide (S 1 p 2 = 0) && decide (S 1 p 3 = 1))) (fun i hi hh => ?_) ?_
  · have hp := wf_p hW hi
    refine pu_u246_99 ?_
    rw [(rm_n hM).2.1, if_pos (nu_ltp (by omega) hi), nu_in (by omega), nu_ix (by omega)]
    refine ⟨by omega, ?_⟩
    have e93 : D.1 93 i = nu_l (S 1 i 2) := (hM.1 1 (by omega)).2 2 (by decide) i hi
    have e94 : D.1 94 i = nu_i (S 1 i 3) := (hM.1 1 (by omega)).2 3 (by decide) i hi
    rw [e93, e94]
    rw [ct_succ] at hh
    by_cases h2 : S 1 i 2 = 0
    · rw [if_pos (by rw [nu_lm (by omega)]; exact h2)]
      rw [if_neg (by simp [h2])] at hh
      rw [nu_addn, nu_addn]; exact hh
    · rw [if_neg (by rw [nu_lm (by omega)]; exact h2)]
      by_cases h3 : S 1 i 3 = 1
      · rw [if_pos (by simp [h2, h3])] at hh
        rw [h3, nu_add, nu_addn]; exact ⟨by omega, hh⟩
      · rw [if_neg (by simp [h3])] at hh
        rw [show S 1 i 3 = 0 by omega, nu_add, nu_addn]; exact ⟨by omega, hh⟩
  · refine pu_u246_99 ?_
    rw [(rm_n hM).2.1, if_neg (nu_ltx (by omega) (by omega))]
    exact h
theorem oq_129 (h : rel_ D) {x1 : Int32} : op_ X D 129 [.ref 0, .int x1] 246 [.ref 85, .int x1] := by
  obtain ⟨S, hr⟩ := h
  obtain ⟨hW, hC, hM, -, -, -, h7, -, ⟨r, r1, r2, r3, r4⟩, -⟩ := id hr
  have hn := wf_n hW
  have hlb : lb_ S < 512 := bs_512 _ (by omega)
  have cn := re_n hC
  have mn := rm_n hM
  refine pu_e129 ?_
  have lit : ∀ k : Nat, k < 11 → x1 = nu_i k → ∀ Q : Int32 → pu_D → Prop, (if k = 0 then Q (D.1 85 0) D else if k = 1 then Q (D.1 85 1) D else if k = 2 then (pu_I X 198 [.ref 85] D (fun y5 D6 => pu_I X 165 [.ref 85, .int y5] D6 (fun y7 D8 => Q y7 D8))) else if k = 3 then (pu_h246_99 X 0 0 D Q) else if k = 4 then Q (D.1 85 2) D else if k = 5 then Q (D.1 85 3) D else if k = 6 then Q (D.1 85 4) D else if k = 7 then Q (D.1 85 5) D else if k = 8 then Q (D.1 85 6) D else if k = 9 then Q (D.1 85 49) D else Q (-1) D) → pu_I X 246 [.ref 85, .int x1] D Q := by
    intro k hk hx Q hq
    subst hx
    refine pu_e246 ?_
    rw [if_pos (show nu_i k < (11 : Int32) from nu_ltp (b := 11) (by omega) hk)]
    simp (disch := omega) only [nu_eqn]
    exact hq
  by_cases c0 : x1 = 0
  · rw [if_pos c0]; exact lit 0 (by omega) c0 _ ⟨cn.1.trans mn.1.symm, S, hr⟩
  rw [if_neg c0]
  by_cases c1 : x1 = 1
  · rw [if_pos c1]; exact lit 1 (by omega) c1 _ ⟨cn.2.1.trans mn.2.1.symm, S, hr⟩
  rw [if_neg c1]
  by_cases c2 : x1 = 2
  · rw [if_pos c2, sp_55 hC hW, sp_247 hlb]
    refine lit 2 (by omega) c2 _ ?_
    rw [if_neg (by omega), if_neg (by omega), if_pos rfl, mp_198 hM hW, mp_165 hlb]
    exact ⟨rfl, S, hr⟩
  rw [if_neg c2]
  by_cases c3 : x1 = 3
  · rw [if_pos c3, sp_55 hC hW, sp_56 hC hW, nu_andn hlb, sp_247 (Nat.lt_of_le_of_lt Nat.and_le_left hlb), di_pc hW]
    refine lit 3 (by omega) c3 _ ?_
    rw [if_neg (by omega), if_neg (by omega), if_neg (by omega), if_pos rfl]
    exact mp_246L hM hW ⟨rfl, S, hr⟩
  rw [if_neg c3]
  by_cases c4 : x1 = 4
  · rw [if_pos c4]; exact lit 4 (by omega) c4 _ ⟨cn.2.2.1.trans mn.2.2.1.symm, S, hr⟩
  rw [if_neg c4]
  by_cases c5 : x1 = 5
  · rw [if_pos c5]; exact lit 5 (by omega) c5 _ ⟨cn.2.2.2.1.trans mn.2.2.2.1.symm, S, hr⟩
  rw [if_neg c5]
  by_cases c6 : x1 = 6
  · rw [if_pos c6]; exact lit 6 (by omega) c6 _ ⟨cn.2.2.2.2.1.trans mn.2.2.2.2.1.symm, S, hr⟩
  rw [if_neg c6]
  by_cases c7 : x1 = 7
  · rw [if_pos c7]; exact lit 7 (by omega) c7 _ ⟨cn.2.2.2.2.2.1.trans mn.2.2.2.2.2.1.symm, S, hr⟩
  rw [if_neg c7]
  by_cases c8 : x1 = 8
  · rw [if_pos c8]; exact lit 8 (by omega) c8 _ ⟨cn.2.2.2.2.2.2.trans mn.2.2.2.2.2.2.symm, S, hr⟩
  rw [if_neg c8]
  by_cases c9 : x1 = 9
  · rw [if_pos c9]; exact lit 9 (by omega) c9 _ ⟨r2.trans r3.symm, S, hr⟩
  rw [if_neg c9]
  by_cases g1 : 10 < x1
  · rw [if_pos g1]
    have n11 : ¬ x1 < 11 := by
      intro z
      have a := Int32.lt_iff_toInt_lt.mp g1
      have b := Int32.lt_iff_toInt_lt.mp z
      have t10 : (10 : Int32).toInt = 10 := by decide
      have t11 : (11 : Int32).toInt = 11 := by decide
      omega
    have x0 : ¬ x1 < 0 := fun z => absurd (Int32.lt_trans g1 z) (by decide)
    by_cases g2 : x1 < 18
    · rw [if_pos g2]
      obtain ⟨k, hk, rfl⟩ := rg_e (n := 18) (by omega) ⟨x0, g2⟩
      have hk2 : 10 < k := by
        have := nu_lt (a := 10) (b := k) (by omega) (by omega)
        exact this.mp g1
      have es : nu_i k - 10 = nu_i (k - 10) := nu_sub (b := 10) (by omega)
      rw [es, nu_in (by omega), nu_ix (by omega)]
      refine ⟨by omega, pu_e246 ?_⟩
      rw [if_neg n11, if_neg (show ¬ 17 < nu_i k by rw [nu_nlt (by omega) (by omega)]; show ¬ 17 < k; omega), es, nu_in (by omega), nu_ix (by omega)]
      exact ⟨by omega, h7 _ (by omega) (by omega), S, hr⟩
    · rw [if_neg g2]
      refine pu_e246 ?_
      have g17 : 17 < x1 := by
        have a : ¬ x1.toInt < (18 : Int32).toInt := fun z => g2 (Int32.lt_iff_toInt_lt.mpr z)
        have t17 : (17 : Int32).toInt = 17 := by decide
        have t18 : (18 : Int32).toInt = 18 := by decide
        exact Int32.lt_iff_toInt_lt.mpr (by omega)
      rw [if_neg n11, if_pos g17, if_neg c0, if_neg c1, if_neg c2, if_neg c3, if_neg c4, if_neg c5, if_neg c6, if_neg c7, if_neg c8, if_neg c9]
      exact ⟨rfl, S, hr⟩
  · rw [if_neg g1]
    refine pu_e246 ?_
    have g11 : x1 < 11 := by
      have a : ¬ (10 : Int32).toInt < x1.toInt := fun z => g1 (Int32.lt_iff_toInt_lt.mpr z)
      have t10 : (10 : Int32).toInt = 10 := by decide
      have t11 : (11 : Int32).toInt = 11 := by decide
      exact Int32.lt_iff_toInt_lt.mpr (by omega)
    rw [if_pos g11, if_neg c0, if_neg c1, if_neg c2, if_neg c3, if_neg c4, if_neg c5, if_neg c6, if_neg c7, if_neg c8, if_neg c9]
    exact ⟨rfl, S, hr⟩
end ST
