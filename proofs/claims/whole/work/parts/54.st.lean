/-! THE SHELVES: an element set, an element asked for, what a shelf holds, a laying put there. -/
section ST
variable {X : px_X} {S : Nat → Nat → Nat → Nat} {D : pu_D}
theorem oq_92 (h : rel_ D) {x1 : Int32} : op_ X D 92 [.ref 0, .int x1] 162 [.ref 85, .int x1] := by
  obtain ⟨S, hr⟩ := h
  obtain ⟨-, -, -, -, -, hS, -⟩ := id hr
  refine pu_e92 ?_
  rw [sp_138]
  by_cases c1 : rg_ x1 8
  · rw [nu_bT c1, if_neg (by decide)]
    obtain ⟨n, hn, rfl⟩ := rg_e (by omega) c1
    obtain ⟨s1, s2, s3⟩ := sv_ hn
    rw [nu_in (by omega), nu_ix (by omega), s1]
    refine ⟨hn, pu_e162 ?_⟩
    rw [mp_151, nu_bT c1, if_neg (by decide), nu_in (by omega), nu_ix (by omega)]
    refine ⟨hn, ?_⟩
    rcases hS n hn with h | ⟨so, sz, h⟩ | ⟨k, a, w, v, h⟩
    · rw [h.1, h.2, if_pos rfl]; exact ⟨rfl, S, hr⟩
    · rw [h.2.2.1, h.2.2.2.1, h.2.2.2.2.1, if_neg (by decide), if_pos rfl]
      exact ⟨hn, hn, (nu_add 100 so).symm, S, hr⟩
    · rw [h.2.2.2.1, h.2.2.2.2.1, h.1.1, if_neg (by decide), if_neg (by decide)]
      exact ⟨hn, hn, rfl, S, hr⟩
  · rw [nu_bF c1, if_pos rfl]
    refine pu_e162 ?_
    rw [mp_151, nu_bF c1, if_pos rfl]; exact ⟨rfl, S, hr⟩
theorem oq_90 (h : rel_ D) {x1 x2 : Int32} : pu_J X 90 [.ref 0, .int x1, .int x2] D (fun y1 D1 => pu_J X 160 [.ref 85, .int x1, .int x2] D1 (fun y2 D2 => y1 = y2 ∧ rel_ D2)) := by
  obtain ⟨S, hr⟩ := h
  obtain ⟨-, -, -, -, -, hS, -⟩ := id hr
  refine pu_e90 ?_
  rw [sp_138]
  by_cases c1 : rg_ x1 8
  · rw [nu_bT c1, if_neg (by decide)]
    obtain ⟨n, hn, rfl⟩ := rg_e (by omega) c1
    obtain ⟨s1, s2, s3⟩ := sv_ hn
    rw [nu_in (by omega), nu_ix (by omega), s1]
    refine ⟨hn, ?_⟩
    have e160 : ∀ v : Int32, D.1 103 n = v → ¬ v = 1 → pu_J X 160 [.ref 85, .int (nu_i n), .int x2] D (fun y2 D2 => Int64.ofNat 0 = y2 ∧ rel_ D2) := by
      intro v hv hne
      refine pu_e160 ?_
      rw [mp_151, nu_bT c1, if_neg (by decide), nu_in (by omega), nu_ix (by omega), hv, if_neg hne]
      exact ⟨hn, rfl, S, hr⟩
    rcases hS n hn with h | ⟨so, sz, h⟩ | ⟨k, a, w, v, h⟩
    · rw [(sh_no hn h).1, if_pos rfl]; exact e160 _ h.1 (by decide)
    · rw [(sh_ro hn h).1, if_neg (by decide)]
      obtain ⟨r1, r2, r3, r4, r5, r6, r7, r8⟩ := h
      refine ⟨hn, pu_e39 s2 ?_⟩
      rw [s3, r7]
      have e160' : ∀ y : Int64, (if x2 < 0 then Int64.ofNat 0 = y ∧ rel_ D else px_in (nu_i n) 8 = true ∧ if x2 < nu_i sz then px_in (120 * nu_i n + x2) 960 = true ∧ D.2 108 (120 * nu_i n + x2).toNatClampNeg = y ∧ rel_ D else Int64.ofNat 0 = y ∧ rel_ D) → pu_J X 160 [.ref 85, .int (nu_i n), .int x2] D (fun y2 D2 => y = y2 ∧ rel_ D2) := by
        intro y hy
        refine pu_e160 ?_
        rw [mp_151, nu_bT c1, if_neg (by decide), nu_in (by omega), nu_ix (by omega), r3, if_pos rfl, r6]
        refine ⟨hn, ?_⟩
        rw [nu_in (by omega)] at hy
        by_cases h1 : x2 < 0
        · rw [if_pos h1] at hy ⊢; exact ⟨hy.1.symm, hy.2⟩
        · rw [if_neg h1] at hy ⊢
          refine ⟨hn, ?_⟩
          have hy := hy.2
          by_cases h2 : x2 < nu_i sz
          · rw [if_pos h2] at hy ⊢; exact ⟨hy.1, hy.2.1.symm, hy.2.2⟩
          · rw [if_neg h2] at hy ⊢; exact ⟨hy.1.symm, hy.2⟩
      by_cases h1 : x2 < 0
      · rw [if_pos h1]; refine e160' _ ?_; rw [if_pos h1]; exact ⟨rfl, S, hr⟩
      rw [if_neg h1]
      by_cases h2 : x2 < nu_i sz
      · rw [if_pos h2]
        obtain ⟨i, hi, rfl⟩ := rg_e (by omega) ⟨h1, h2⟩
        rw [nu_in (by omega), nu_ix (by omega)]
        refine ⟨by omega, e160' _ ?_⟩
        rw [if_neg h1, if_pos h2]
        simp (disch := omega) only [nu_nmul, nu_add, nu_in, nu_ix]
        exact ⟨hn, by omega, (r8 i hi).symm, S, hr⟩
      · rw [if_neg h2]; refine e160' _ ?_; rw [if_neg h1, if_neg h2, nu_in (by omega)]; exact ⟨hn, rfl, S, hr⟩
    · rw [(sh_la hn h).1, if_pos rfl]; exact e160 _ h.2.2.2.1 (by decide)
  · rw [nu_bF c1, if_pos rfl]
    refine pu_e160 ?_
    rw [mp_151, nu_bF c1, if_pos rfl]; exact ⟨rfl, S, hr⟩
/-- what a row of sort so keeps of a number -/
def kv_ (so : Nat) (x : Int64) : Int64 := if so = 0 then Int32.toInt64 ((Int32.toInt8 (Int64.toInt32 x)).toInt32) else if so = 1 then Int32.toInt64 ((Int32.toInt16 (Int64.toInt32 x)).toInt32) else if so = 2 then Int32.toInt64 (Int64.toInt32 x) else x
theorem sp_42 {q so : Nat} {x : Int64} {P : Int64 → pu_D → Prop} (hq : pu_cl q = 3) (h : D.1 q 1 = nu_i (100 + so)) (hso : so < 4) : pu_J X 42 [.ref q, .long x] D P = P (kv_ so x) D := by
  refine pu_J_of (pu_e42 hq ?_) P
  have e : nu_i (100 + so) - 100 = nu_i so := by
    rw [show (100 : Int32) = nu_i 100 from rfl, nu_sub (by omega), Nat.add_sub_cancel_left]
  rw [h, e]
  rcases (show so = 0 ∨ so = 1 ∨ so = 2 ∨ so = 3 by omega) with rfl | rfl | rfl | rfl
  · rw [if_pos (by decide)]; exact ⟨rfl, rfl⟩
  · rw [if_neg (by decide), if_pos (by decide)]; exact ⟨rfl, rfl⟩
  · rw [if_neg (by decide), if_neg (by decide), if_pos (by decide)]; exact ⟨rfl, rfl⟩
  · rw [if_neg (by decide), if_neg (by decide), if_neg (by decide)]; exact ⟨rfl, rfl⟩
theorem sp_37 {q sz : Nat} {x : Int32} {P : Int32 → pu_D → Prop} (hq : pu_cl q = 3) (h : D.1 q 2 = nu_i sz) : pu_I X 37 [.ref q, .int x] D P = P (nu_b (rg_ x sz)) D := by
  refine pu_I_of (pu_e37 hq ?_) P
  rw [h]
  exact rg_if (P := fun y => y = nu_b (rg_ x sz) ∧ D = D) ⟨rfl, rfl⟩
theorem oq_88 (h : rel_ D) {x1 x2 : Int32} {x3 : Int64} : op_ X D 88 [.ref 0, .int x1, .int x2, .long x3] 158 [.ref 85, .int x1, .int x2, .long x3] := by
  obtain ⟨S, hr⟩ := h
  obtain ⟨-, -, -, -, -, hS, -⟩ := id hr
  refine pu_e88 ?_
  rcases sh_cases hS X x1 with ⟨c8, ab⟩ | ⟨n, hn, rfl, ⟨h0, ab⟩ | ⟨so, sz, h0, ab⟩ | ⟨k, a, w, v, h0, ab⟩⟩
  · rw [ab.1, if_neg (by decide), sp_130_1]
    refine pu_e158 ?_
    rw [mp_151, nu_bF c8, if_pos rfl, mp_149_1]; exact ⟨rfl, S, rx_rf hr⟩
  · have e8 := rg_i (n := 8) (by omega) hn
    rw [ab.1, if_neg (by decide), sp_130_3]
    refine pu_e158 ?_
    rw [mp_151, nu_bT e8, if_neg (by decide), nu_in (by omega), nu_ix (by omega), show (rf_ D 3).1 103 n = 0 from (wi_q (by omega)).trans h0.1, if_neg (by decide), if_pos rfl, mp_149_3]
    exact ⟨hn, hn, rfl, S, rx_rf hr⟩
  · have e8 := rg_i (n := 8) (by omega) hn
    obtain ⟨s1, s2, s3⟩ := sv_ hn
    rw [ab.1, if_pos rfl, nu_in (by omega), nu_ix (by omega), s1]
    obtain ⟨r1, r2, r3, r4, r5, r6, r7, r8⟩ := id h0
    rw [sp_37 s2 r7]
    refine ⟨hn, ?_⟩
    by_cases c2 : rg_ x2 sz
    · obtain ⟨i, hi, rfl⟩ := rg_e (by omega) c2
      rw [nu_bT c2, if_neg (by decide)]
      refine ⟨hn, pu_e41 s2 ?_⟩
      rw [sp_37 s2 r7, nu_bT c2, if_neg (by decide), sp_42 s2 r5 r1, s3, nu_in (by omega), nu_ix (by omega)]
      refine ⟨by omega, ?_⟩
      refine pu_e158 ?_
      rw [mp_151, nu_bT e8, if_neg (by decide), nu_in (by omega), nu_ix (by omega), wl_1, r3, r4, r6]
      simp (disch := omega) only [nu_nmul, nu_add, nu_in, nu_ix]
      rw [if_neg (show ¬ (1 : Int32) = 2 by decide), if_neg (show ¬ (1 : Int32) = 0 by decide), if_neg (show ¬ nu_i i < 0 from c2.1), if_pos (show nu_i i < nu_i sz from c2.2)]
      have fin : rel_ (pu_wl (pu_wl D (70 + 2 * n) i (kv_ so x3)) 108 (120 * n + i) (kv_ so x3)) := by
        refine ⟨S, rx_sh hr hn (fun q j z => rfl) (fun n' hn' hne => ⟨fun i' hi' => ?_, fun i' hi' => ?_⟩) (Or.inr (Or.inl ⟨so, sz, r1, r2, r3, r4, r5, r6, r7, fun i' hi' => ?_⟩))⟩
        · rw [wl_if, if_neg (by omega), wl_if, if_neg (by omega)]
        · rw [wl_if, if_neg (by omega), wl_if, if_neg (by omega)]
        · rw [wl_if, if_neg (by omega), wl_if, wl_if]
          by_cases e : i' = i
          · subst e; rw [if_pos ⟨rfl, rfl⟩, if_pos ⟨rfl, rfl⟩]
          · rw [if_neg (by omega), if_neg (by omega), wl_if, if_neg (by omega)]; exact r8 i' hi'
      refine ⟨hn, hn, hn, hn, ?_⟩
      rcases (show so = 0 ∨ so = 1 ∨ so = 2 ∨ so = 3 by omega) with rfl | rfl | rfl | rfl
      · rw [if_pos (show nu_i 0 = (0 : Int32) from rfl)]; exact ⟨by omega, by trivial, fin⟩
      · rw [if_neg (show ¬ nu_i 1 = (0 : Int32) by decide), if_pos (show nu_i 1 = (1 : Int32) from rfl)]; exact ⟨hn, by omega, by trivial, fin⟩
      · rw [if_neg (show ¬ nu_i 2 = (0 : Int32) by decide), if_neg (show ¬ nu_i 2 = (1 : Int32) by decide), if_pos (show nu_i 2 = (2 : Int32) from rfl)]; exact ⟨hn, hn, by omega, by trivial, fin⟩
      · rw [if_neg (show ¬ nu_i 3 = (0 : Int32) by decide), if_neg (show ¬ nu_i 3 = (1 : Int32) by decide), if_neg (show ¬ nu_i 3 = (2 : Int32) by decide)]; exact ⟨hn, hn, by omega, by trivial, fin⟩
    · rw [nu_bF c2, if_pos rfl, sp_130_5]
      refine pu_e158 ?_
      rw [mp_151, nu_bT e8, if_neg (by decide), nu_in (by omega), nu_ix (by omega), show (rf_ D 5).1 103 n = 1 from (wi_q (by omega)).trans r3, if_neg (by decide), if_neg (by decide), show (rf_ D 5).1 105 n = nu_i sz from (wi_q (by omega)).trans r6]
      refine ⟨hn, hn, ?_⟩
      by_cases h1 : x2 < 0
      · rw [if_pos h1, mp_149_5]; exact ⟨rfl, S, rx_rf hr⟩
      rw [if_neg h1]
      refine ⟨hn, ?_⟩
      rw [if_neg (show ¬ x2 < nu_i sz from fun z => c2 ⟨h1, z⟩), mp_149_5]; exact ⟨rfl, S, rx_rf hr⟩
  · have e8 := rg_i (n := 8) (by omega) hn
    rw [ab.1, if_neg (by decide), sp_130_2]
    refine pu_e158 ?_
    rw [mp_151, nu_bT e8, if_neg (by decide), nu_in (by omega), nu_ix (by omega), show (rf_ D 2).1 103 n = 2 from (wi_q (by omega)).trans h0.2.2.2.1, if_pos rfl, mp_149_2]
    exact ⟨hn, rfl, S, rx_rf hr⟩
end ST
