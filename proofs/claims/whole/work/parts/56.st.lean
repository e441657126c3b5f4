/-! THE SHELVES: what a laying says; a row judged by it. -/
section ST
variable {X : px_X} {S : Nat → Nat → Nat → Nat} {D : pu_D}
/-- it says x of a laying of kind k -/
abbrev ky_ (k : Nat) (x : Int32) : Prop := x = 0 ∨ x = nu_i k ∨ (x = 2 ∧ (k = 3 ∨ k = 5))
theorem sp_43 {q k : Nat} {x : Int32} {P : Int32 → pu_D → Prop} (hq : pu_cl q = 3) (h1 : D.1 q 1 = nu_i k) (hk : k < 7) (h33 : ∀ P, pu_I X 33 [.ref q] D P = P 1 D) : pu_I X 43 [.ref q, .int x] D P = P (nu_b (ky_ k x)) D := by
  refine pu_I_of (pu_e43 hq ?_) P
  rw [h1]
  by_cases a1 : x = 0
  · rw [if_pos a1, h33, nu_bT (Or.inl a1)]; exact ⟨by decide, rfl, rfl⟩
  rw [if_neg a1]
  by_cases a2 : x = nu_i k
  · rw [if_pos a2, h33, nu_bT (Or.inr (Or.inl a2))]; exact ⟨by decide, rfl, rfl⟩
  rw [if_neg a2]
  by_cases a3 : x = 2
  · rw [if_pos a3]
    by_cases a4 : k = 3
    · rw [if_pos (show nu_i k = 3 by rw [a4]; rfl), nu_bT (Or.inr (Or.inr ⟨a3, Or.inl a4⟩))]; exact ⟨rfl, rfl⟩
    rw [if_neg (show ¬ nu_i k = 3 by rw [nu_eqn (by omega) (by omega)]; exact a4)]
    by_cases a5 : k = 5
    · rw [if_pos (show nu_i k = 5 by rw [a5]; rfl), nu_bT (Or.inr (Or.inr ⟨a3, Or.inr a5⟩))]; exact ⟨rfl, rfl⟩
    rw [if_neg (show ¬ nu_i k = 5 by rw [nu_eqn (by omega) (by omega)]; exact a5), nu_bF (fun z => z.elim a1 (fun z => z.elim a2 (fun z => z.2.elim a4 a5)))]
    exact ⟨rfl, rfl⟩
  · rw [if_neg a3, nu_bF (fun z => z.elim a1 (fun z => z.elim a2 (fun z => a3 z.1)))]; exact ⟨rfl, rfl⟩
theorem mp_163 {k : Nat} {x : Int32} {P : Int32 → pu_D → Prop} (hk : k < 7) : pu_I X 163 [.ref 85, .int (nu_i k), .int x] D P = P (nu_b (ky_ k x)) D := by
  refine pu_I_of (pu_e163 ?_) P
  by_cases a1 : x = 0
  · rw [if_pos a1, nu_bT (Or.inl a1)]; exact ⟨rfl, rfl⟩
  rw [if_neg a1]
  by_cases a2 : x = nu_i k
  · rw [if_pos a2, nu_bT (Or.inr (Or.inl a2))]; exact ⟨rfl, rfl⟩
  rw [if_neg a2]
  by_cases a3 : x = 2
  · rw [if_pos a3]
    by_cases a4 : k = 3
    · rw [if_pos (show nu_i k = 3 by rw [a4]; rfl), nu_bT (Or.inr (Or.inr ⟨a3, Or.inl a4⟩))]; exact ⟨rfl, rfl⟩
    rw [if_neg (show ¬ nu_i k = 3 by rw [nu_eqn (by omega) (by omega)]; exact a4)]
    by_cases a5 : k = 5
    · rw [if_pos (show nu_i k = 5 by rw [a5]; rfl), nu_bT (Or.inr (Or.inr ⟨a3, Or.inr a5⟩))]; exact ⟨rfl, rfl⟩
    rw [if_neg (show ¬ nu_i k = 5 by rw [nu_eqn (by omega) (by omega)]; exact a5), nu_bF (fun z => z.elim a1 (fun z => z.elim a2 (fun z => z.2.elim a4 a5)))]
    exact ⟨rfl, rfl⟩
  · rw [if_neg a3, nu_bF (fun z => z.elim a1 (fun z => z.elim a2 (fun z => a3 z.1)))]; exact ⟨rfl, rfl⟩
theorem oq_93 (h : rel_ D) {x1 x2 : Int32} : op_ X D 93 [.ref 0, .int x1, .int x2] 164 [.ref 85, .int x1, .int x2] := by
  obtain ⟨S, hr⟩ := h
  obtain ⟨hW, hC, hM, -, -, hS, -⟩ := id hr
  refine pu_e93 ?_
  simp only [sp_130_1]
  have r1 : (x2 < 0 ∨ 6 < x2) → pu_I X 164 [.ref 85, .int x1, .int x2] (rf_ D 1) (fun y2 D2 => -1 = y2 ∧ rel_ D2) := by
    intro hx
    refine pu_e164 ?_
    rw [mp_151]
    by_cases c1 : rg_ x1 8
    · rw [nu_bT c1, if_neg (by decide)]
      by_cases h1 : x2 < 0
      · rw [if_pos h1, mp_149_1]; exact ⟨rfl, S, rx_rf hr⟩
      rw [if_neg h1, if_pos (hx.resolve_left h1), mp_149_1]; exact ⟨rfl, S, rx_rf hr⟩
    · rw [nu_bF c1, if_pos rfl, mp_149_1]; exact ⟨rfl, S, rx_rf hr⟩
  by_cases h1 : x2 < 0
  · rw [if_pos h1]; exact r1 (Or.inl h1)
  rw [if_neg h1]
  by_cases h2 : 6 < x2
  · rw [if_pos h2]; exact r1 (Or.inr h2)
  rw [if_neg h2]
  rcases sh_cases hS X x1 with ⟨c8, ab⟩ | ⟨n, hn, rfl, ⟨h0, ab⟩ | ⟨so, sz, h0, ab⟩ | ⟨k, a, w, v, h0, ab⟩⟩
  · rw [ab.2.1, if_neg (by decide), sp_130_1]
    refine pu_e164 ?_
    rw [mp_151, nu_bF c8, if_pos rfl, mp_149_1]; exact ⟨rfl, S, rx_rf hr⟩
  · have e8 := rg_i (n := 8) (by omega) hn
    rw [ab.2.1, if_neg (by decide), sp_130_3]
    refine pu_e164 ?_
    rw [mp_151, nu_bT e8, if_neg (by decide), if_neg h1, if_neg h2, nu_in (by omega), nu_ix (by omega), show (rf_ D 3).1 103 n = 0 from (wi_q (by omega)).trans h0.1, if_neg (by decide), if_pos rfl, mp_149_3]
    exact ⟨hn, hn, rfl, S, rx_rf hr⟩
  · have e8 := rg_i (n := 8) (by omega) hn
    rw [ab.2.1, if_neg (by decide), sp_130_2]
    refine pu_e164 ?_
    rw [mp_151, nu_bT e8, if_neg (by decide), if_neg h1, if_neg h2, nu_in (by omega), nu_ix (by omega), show (rf_ D 2).1 103 n = 1 from (wi_q (by omega)).trans h0.2.2.1, if_pos rfl, mp_149_2]
    exact ⟨hn, rfl, S, rx_rf hr⟩
  · have e8 := rg_i (n := 8) (by omega) hn
    obtain ⟨s1, s2, s3⟩ := sv_ hn
    have hl := h0.1
    obtain ⟨⟨l1, l3, l4, hk, ha, hw, ha2⟩, g2, g3, g4, g5, g6, g7⟩ := id h0
    rw [ab.2.1, if_pos rfl, nu_in (by omega), nu_ix (by omega), s1, sp_43 s2 l1 hk (sh_la hn h0).2]
    refine ⟨hn, ?_⟩
    have hb := sl_bn (S := S) (k := k) (a := a) (w := w) hW ha2
    by_cases c : ky_ k x2
    · rw [nu_bT c, if_neg (by decide)]
      have em : ∀ y : Int32, (if x2 = 0 then nu_i (pc_ (bn_ S k a w)) = y ∧ rel_ D else if x2 = 2 then nu_i (bn_ S k a w) = y ∧ rel_ D else if x2 = 5 then nu_i v = y ∧ rel_ D else nu_i a = y ∧ rel_ D) → pu_I X 164 [.ref 85, .int (nu_i n), .int x2] D (fun y2 D2 => y = y2 ∧ rel_ D2) := by
        intro y hy
        refine pu_e164 ?_
        rw [mp_151, nu_bT e8, if_neg (by decide), if_neg h1, if_neg h2, nu_in (by omega), nu_ix (by omega), g4, if_neg (by decide), if_neg (by decide), g5, mp_163 hk, nu_bT c, if_neg (by decide), g5, g6, g7, mp_202 hM hW hk ha g2 ha2, bn_w g3]
        refine ⟨hn, hn, hn, hn, hn, hn, ?_⟩
        by_cases b1 : x2 = 0
        · rw [if_pos b1] at hy ⊢; rw [mp_165 hb.1]; exact ⟨hy.1.symm, hy.2⟩
        rw [if_neg b1] at hy ⊢
        by_cases b2 : x2 = 2
        · rw [if_pos b2] at hy ⊢; exact ⟨hy.1.symm, hy.2⟩
        rw [if_neg b2] at hy ⊢
        by_cases b3 : x2 = 5
        · rw [if_pos b3] at hy ⊢; exact ⟨hn, hy.1.symm.trans g7.symm, hy.2⟩
        rw [if_neg b3] at hy ⊢
        exact ⟨hn, hy.1.symm.trans g6.symm, hy.2⟩
      by_cases b1 : x2 = 0
      · rw [if_pos b1, sp_57 hC hW s2 hl, sp_247 hb.1]; refine em _ ?_; rw [if_pos b1]; exact ⟨rfl, S, hr⟩
      rw [if_neg b1]
      by_cases b2 : x2 = 2
      · rw [if_pos b2, sp_57 hC hW s2 hl]; refine em _ ?_; rw [if_neg b1, if_pos b2]; exact ⟨rfl, S, hr⟩
      rw [if_neg b2]
      by_cases b3 : x2 = 5
      · rw [if_pos b3, l4]
        have hk5 : k = 5 := by
          rcases c with z | z | z
          · exact absurd z b1
          · rw [b3, show (5 : Int32) = nu_i 5 from rfl, nu_eq (by omega) (by omega)] at z; exact z.symm
          · exact absurd z.1 b2
        rw [← g3 hk5]; refine em _ ?_; rw [if_neg b1, if_neg b2, if_pos b3]; exact ⟨rfl, S, hr⟩
      rw [if_neg b3, l3]; refine em _ ?_; rw [if_neg b1, if_neg b2, if_neg b3]; exact ⟨rfl, S, hr⟩
    · rw [nu_bF c, if_pos rfl, sp_130_2]
      have e : ∀ q, 103 ≤ q → q ≤ 107 → (rf_ D 2).1 q n = D.1 q n := fun q z1 z2 => wi_q (by omega)
      refine pu_e164 ?_
      rw [mp_151, nu_bT e8, if_neg (by decide), if_neg h1, if_neg h2, nu_in (by omega), nu_ix (by omega), e 103 (by omega) (by omega), g4, if_neg (by decide), if_neg (by decide), e 106 (by omega) (by omega), g5, mp_163 hk, nu_bF c, if_pos rfl, mp_149_2]
      exact ⟨hn, hn, hn, rfl, S, rx_rf hr⟩
/-- what the row n of sz elements says of i -/
def jv_ (D : pu_D) (n sz i : Nat) : Int32 := if i < sz then Int64.toInt32 (D.2 108 (120 * n + i)) else 0
theorem sp_40 {n so sz i : Nat} {P : Int32 → pu_D → Prop} (hn : n < 8) (h : ro_ D n so sz) (hi : i < 120) : pu_I X 40 [.ref (69 + 2 * n), .int (nu_i i)] D P = P (jv_ D n sz i) D := by
  obtain ⟨s1, s2, s3⟩ := sv_ hn
  obtain ⟨r1, r2, r3, r4, r5, r6, r7, r8⟩ := h
  refine pu_I_of (pu_e40 s2 (pu_e39 s2 ?_)) P
  rw [r7, s3, if_neg (by rw [nu_lt0 (by omega)]; exact fun z => z), nu_in (by omega), nu_ix (by omega)]
  unfold jv_
  by_cases hs : i < sz
  · rw [if_pos (nu_ltp (by omega) hs), if_pos hs, r8 i hs]; exact ⟨hi, rfl, rfl⟩
  · rw [if_neg (nu_ltx (by omega) hs), if_neg hs]; exact ⟨by decide, rfl⟩
theorem oq_124L (hr : rx_ S D) {n1 n2 k a w v so sz m : Nat} (hn1 : n1 < 8) (hn2 : n2 < 8) (h1 : la_ D n1 k a w v) (h2 : ro_ D n2 so sz) (hm : m < 12) {N : Nat} (hN : N = 120) : pu_h124_99 X (nu_i m) (69 + 2 * n1) (69 + 2 * n2) 0 D (fun y1 D1 => D1 = D ∧ y1 = if fi_ (fun i => !decide (nu_i (lt_ S k a w i m 0) = jv_ D n2 sz i)) N < N then nu_i (fi_ (fun i => !decide (nu_i (lt_ S k a w i m 0) = jv_ D n2 sz i)) N) else -1) ∧ pu_h235_92 X (nu_i n1) (nu_i n2) (nu_i m) 0 D (fun y1 D1 => D1 = D ∧ y1 = if fi_ (fun i => !decide (nu_i (lt_ S k a w i m 0) = jv_ D n2 sz i)) N < N then nu_i (fi_ (fun i => !decide (nu_i (lt_ S k a w i m 0) = jv_ D n2 sz i)) N) else -1) := by
  obtain ⟨hW, hC, hM, -⟩ := id hr
  obtain ⟨s1, s2, s3⟩ := sv_ hn1
  obtain ⟨t1, t2, t3⟩ := sv_ hn2
  have hfl := fi_le (fun i => !decide (nu_i (lt_ S k a w i m 0) = jv_ D n2 sz i)) N
  have hat := (fi_at (fun i => !decide (nu_i (lt_ S k a w i m 0) = jv_ D n2 sz i)) N).1
  have e136 : ∀ i, i < 120 → ∀ P, pu_I X 136 [.ref 0, .ref (69 + 2 * n1), .int (nu_i i), .int (nu_i m), .int 0] D P = P (nu_i (lt_ S k a w i m 0)) D := fun i hi P => sp_136 (h := 0) hC hW s2 h1.1 hi hm (by omega)
  have e207 : ∀ i, i < 120 → ∀ P, pu_I X 207 [.ref 85, .int (nu_i n1), .int (nu_i i), .int (nu_i m), .int 0] D P = P (nu_i (lt_ S k a w i m 0)) D := fun i hi P => mp_207 (h := 0) hM hW hn1 h1 hi hm (by omega)
  constructor
  · refine lo_fi (fun x => pu_h124_99 X (nu_i m) (69 + 2 * n1) (69 + 2 * n2) x D _) N (fun i => !decide (nu_i (lt_ S k a w i m 0) = jv_ D n2 sz i)) (fun i hi hb hh => ?_) ?_
    · refine pu_u124_99 s2 t2 ?_
      rw [if_pos (show nu_i i < (120 : Int32) from nu_ltp (b := 120) (by omega) (by omega)), e136 i (by omega), sp_40 hn2 h2 (by omega), if_pos (by simpa using hb), nu_addn]
      exact hh
    · refine pu_u124_99 s2 t2 ?_
      by_cases hf : fi_ (fun i => !decide (nu_i (lt_ S k a w i m 0) = jv_ D n2 sz i)) N < N
      · rw [if_pos (show nu_i _ < (120 : Int32) from nu_ltp (b := 120) (by omega) (by omega)), e136 _ (by omega), sp_40 hn2 h2 (by omega), if_neg (by simpa using hat hf), if_pos hf]
        exact ⟨rfl, rfl⟩
      · rw [if_neg (show ¬ nu_i _ < (120 : Int32) from nu_ltx (b := 120) (by omega) (by omega)), if_neg hf]
        exact ⟨rfl, rfl⟩
  · obtain ⟨r1, r2, r3, r4, r5, r6, r7, r8⟩ := id h2
    have e167 : ∀ i, i < 120 → ∀ P, pu_I X 167 [.ref 85, .int (nu_i n2), .int (nu_i i)] D P = P (Int64.toInt32 (D.2 108 (120 * n2 + i))) D := by
      intro i hi P
      refine pu_I_of (pu_e167 ?_) P
      simp (disch := omega) only [nu_nmul, nu_add, nu_in, nu_ix]
      exact ⟨by omega, by trivial⟩
    refine lo_fi (fun x => pu_h235_92 X (nu_i n1) (nu_i n2) (nu_i m) x D _) N (fun i => !decide (nu_i (lt_ S k a w i m 0) = jv_ D n2 sz i)) (fun i hi hb hh => ?_) ?_
    · refine pu_u235_92 ?_
      have hb2 : nu_i (lt_ S k a w i m 0) = jv_ D n2 sz i := by simpa using hb
      rw [if_pos (show nu_i i < (120 : Int32) from nu_ltp (b := 120) (by omega) (by omega)), nu_in (by omega), nu_ix (by omega), r6]
      refine ⟨hn2, ?_⟩
      unfold jv_ at hb2
      by_cases hs : i < sz
      · rw [if_pos (nu_ltp (by omega) hs), e167 i (by omega), e207 i (by omega)]
        rw [if_pos hs] at hb2
        rw [if_pos hb2.symm, nu_addn]; exact hh
      · rw [if_neg (nu_ltx (by omega) hs), e207 i (by omega)]
        rw [if_neg hs] at hb2
        rw [if_pos hb2.symm, nu_addn]; exact hh
    · refine pu_u235_92 ?_
      by_cases hf : fi_ (fun i => !decide (nu_i (lt_ S k a w i m 0) = jv_ D n2 sz i)) N < N
      · have hb := hat hf
        generalize fi_ (fun i => !decide (nu_i (lt_ S k a w i m 0) = jv_ D n2 sz i)) N = i at *
        have hb2 : ¬ nu_i (lt_ S k a w i m 0) = jv_ D n2 sz i := by simpa using hb
        rw [if_pos (show nu_i i < (120 : Int32) from nu_ltp (b := 120) (by omega) (by omega)), nu_in (by omega), nu_ix (by omega), r6, if_pos hf]
        refine ⟨hn2, ?_⟩
        unfold jv_ at hb2
        by_cases hs : i < sz
        · rw [if_pos (nu_ltp (by omega) hs), e167 i (by omega), e207 i (by omega)]
          rw [if_pos hs] at hb2
          rw [if_neg (fun z => hb2 z.symm)]; exact ⟨rfl, rfl⟩
        · rw [if_neg (nu_ltx (by omega) hs), e207 i (by omega)]
          rw [if_neg hs] at hb2
          rw [if_neg (fun z => hb2 z.symm)]; exact ⟨rfl, rfl⟩
      · rw [if_neg (show ¬ nu_i _ < (120 : Int32) from nu_ltx (b := 120) (by omega) (by omega)), if_neg hf]
        exact ⟨rfl, rfl⟩
end ST
