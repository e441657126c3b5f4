/-! THE SHELVES: a laying put there, what it says, a row judged. -/
section ST
variable {X : px_X} {S : Nat → Nat → Nat → Nat} {D : pu_D}
/-- a laying of kind k, of x -/
abbrev oy_ (k : Nat) (x : Int32) : Prop := (k = 1 ∨ k = 3 → rg_ x 2) ∧ (k = 4 → rg_ x 12) ∧ (k = 6 → rg_ x 512)
theorem rg_2 {x : Int32} : rg_ x 2 ↔ x = 0 ∨ x = 1 := by
  constructor
  · intro h
    obtain ⟨a, ha, rfl⟩ := rg_e (by omega) h
    rcases (show a = 0 ∨ a = 1 by omega) with rfl | rfl
    · exact Or.inl rfl
    · exact Or.inr rfl
  · rintro (rfl | rfl) <;> exact ⟨by decide, by decide⟩
theorem nu_b1x (c : Prop) [Decidable c] : nu_b c &&& 1 = nu_b c := by
  by_cases h : c
  · rw [nu_bT h]; decide
  · rw [nu_bF h]; decide
theorem sp_146 {k : Nat} {x : Int32} {P : Int32 → pu_D → Prop} (hk : k < 7) : pu_I X 146 [.int (nu_i k), .int x] D P = P (nu_b (oy_ k x)) D := by
  refine pu_I_of (pu_e146 ?_) P
  have two : (k = 1 ∨ k = 3) → if x = 0 then (1 : Int32) = nu_b (oy_ k x) ∧ D = D else (if x = 1 then (1 : Int32) = nu_b (oy_ k x) ∧ D = D else (0 : Int32) = nu_b (oy_ k x) ∧ D = D) := by
    intro hk2
    by_cases h1 : x = 0
    · rw [if_pos h1, nu_bT ⟨fun _ => rg_2.mpr (Or.inl h1), fun z => by omega, fun z => by omega⟩]; exact ⟨rfl, rfl⟩
    rw [if_neg h1]
    by_cases h2 : x = 1
    · rw [if_pos h2, nu_bT ⟨fun _ => rg_2.mpr (Or.inr h2), fun z => by omega, fun z => by omega⟩]; exact ⟨rfl, rfl⟩
    rw [if_neg h2, nu_bF (fun z => (rg_2.mp (z.1 hk2)).elim h1 h2)]; exact ⟨rfl, rfl⟩
  rcases (show k = 0 ∨ k = 1 ∨ k = 2 ∨ k = 3 ∨ k = 4 ∨ k = 5 ∨ k = 6 by omega) with rfl | rfl | rfl | rfl | rfl | rfl | rfl
  · rw [if_neg (by decide), if_neg (by decide), if_neg (by decide), if_neg (by decide), nu_bT ⟨fun z => by omega, fun z => by omega, fun z => by omega⟩]; exact ⟨rfl, rfl⟩
  · rw [if_pos (by decide)]; exact two (by omega)
  · rw [if_neg (by decide), if_neg (by decide), if_neg (by decide), if_neg (by decide), nu_bT ⟨fun z => by omega, fun z => by omega, fun z => by omega⟩]; exact ⟨rfl, rfl⟩
  · rw [if_neg (by decide), if_pos (by decide)]; exact two (by omega)
  · rw [if_neg (by decide), if_neg (by decide), if_pos (by decide), sp_141]
    refine ⟨nu_b1x _, ?_, rfl⟩
    by_cases h : rg_ x 12
    · rw [nu_bT h, nu_bT ⟨fun z => by omega, fun _ => h, fun z => by omega⟩]
    · rw [nu_bF h, nu_bF (fun z => h (z.2.1 rfl))]
  · rw [if_neg (by decide), if_neg (by decide), if_neg (by decide), if_neg (by decide), nu_bT ⟨fun z => by omega, fun z => by omega, fun z => by omega⟩]; exact ⟨rfl, rfl⟩
  · rw [if_neg (by decide), if_neg (by decide), if_neg (by decide), if_pos (by decide)]
    have e : nu_b (oy_ 6 x) = nu_b (rg_ x 512) := by
      by_cases h : rg_ x 512
      · rw [nu_bT h, nu_bT ⟨fun z => by omega, fun z => by omega, fun _ => h⟩]
      · rw [nu_bF h, nu_bF (fun z => h (z.2.2 rfl))]
    rw [e]
    exact rg_if (n := 512) (P := fun y => y = nu_b (rg_ x 512) ∧ D = D) ⟨rfl, rfl⟩
/-- the number a laying keeps -/
def ak_ (k : Nat) (x : Int32) : Int32 := if k = 1 ∨ k = 3 ∨ k = 4 ∨ k = 6 then x else 0
theorem sp_36 {q k : Nat} {x y : Int32} {P : pu_D → Prop} (hq : pu_cl q = 3) (hk : k < 7) : pu_V X 36 [.ref q, .int (nu_i k), .int x, .int y] D P = P (pu_wi (pu_wi (pu_wi (pu_wi D q 1 (nu_i k)) q 2 0) q 3 (ak_ k x)) q 4 y) := by
  refine pu_V_of (pu_e36 hq ?_) P
  rcases (show k = 0 ∨ k = 1 ∨ k = 2 ∨ k = 3 ∨ k = 4 ∨ k = 5 ∨ k = 6 by omega) with rfl | rfl | rfl | rfl | rfl | rfl | rfl
  · rw [if_neg (by decide), if_neg (by decide), if_neg (by decide), if_neg (by decide)]; rfl
  · rw [if_pos (by decide)]; rfl
  · rw [if_neg (by decide), if_neg (by decide), if_neg (by decide), if_neg (by decide)]; rfl
  · rw [if_neg (by decide), if_pos (by decide)]; rfl
  · rw [if_neg (by decide), if_neg (by decide), if_pos (by decide)]; rfl
  · rw [if_neg (by decide), if_neg (by decide), if_neg (by decide), if_neg (by decide)]; rfl
  · rw [if_neg (by decide), if_neg (by decide), if_neg (by decide), if_pos (by decide)]; rfl
theorem mp_161w (hM : re_M S D) (hW : wf_ S) {n k : Nat} {x : Int32} {P : Int32 → pu_D → Prop} (hn : n < 8) (hk : k < 7) (h : P 1 (pu_wi (pu_wi (pu_wi (pu_wi D 103 n 2) 106 n (nu_i k)) 107 n (ak_ k x)) 105 n (if k = 5 then nu_i (lb_ S) else 0))) : pu_h161_92 X (nu_i n) (nu_i k) x D P := by
  refine pu_u161_92 ?_
  rw [nu_in (by omega), nu_ix (by omega)]
  refine ⟨hn, hn, ?_⟩
  rcases (show k = 0 ∨ k = 1 ∨ k = 2 ∨ k = 3 ∨ k = 4 ∨ k = 5 ∨ k = 6 by omega) with rfl | rfl | rfl | rfl | rfl | rfl | rfl
  · rw [if_neg (by decide), if_neg (by decide), if_neg (by decide), if_neg (by decide), if_neg (by decide)]; exact ⟨hn, hn, h⟩
  · rw [if_pos (by decide), if_neg (by decide)]; exact ⟨hn, hn, h⟩
  · rw [if_neg (by decide), if_neg (by decide), if_neg (by decide), if_neg (by decide), if_neg (by decide)]; exact ⟨hn, hn, h⟩
  · rw [if_neg (by decide), if_pos (by decide), if_neg (by decide)]; exact ⟨hn, hn, h⟩
  · rw [if_neg (by decide), if_neg (by decide), if_pos (by decide), if_neg (by decide)]; exact ⟨hn, hn, h⟩
  · rw [if_neg (by decide), if_neg (by decide), if_neg (by decide), if_neg (by decide), if_pos (by decide)]
    have hcb : ∀ t, t < 7 → 87 ≤ cm_ t ∧ cm_ t + wd_ t ≤ 103 := fun t ht => cm_b ht
    have hM1 : re_M S (pu_wi (pu_wi (pu_wi D 103 n 2) 106 n (nu_i 5)) 107 n 0) := by
      have e : ∀ q j, ¬ (103 ≤ q ∧ q ≤ 107) → (pu_wi (pu_wi (pu_wi D 103 n 2) 106 n (nu_i 5)) 107 n 0).1 q j = D.1 q j := fun q j z => by rw [wi_q (by omega), wi_q (by omega), wi_q (by omega)]
      exact ⟨fun t ht => ⟨by rw [e _ _ (by omega)]; exact (hM.1 t ht).1, fun w hw i hi => by have := hcb t ht; rw [e _ _ (by omega)]; exact (hM.1 t ht).2 w hw i hi⟩, fun j hj => by rw [e _ _ (by omega)]; exact hM.2 j hj⟩
    rw [mp_198 hM1 hW]
    exact ⟨hn, hn, h⟩
  · rw [if_neg (by decide), if_neg (by decide), if_neg (by decide), if_pos (by decide), if_neg (by decide)]; exact ⟨hn, hn, h⟩
/-- the reference: put there or refused -/
theorem mp_161 (hM : re_M S D) (hW : wf_ S) {n k : Nat} {x : Int32} {P : Int32 → pu_D → Prop} (hn : n < 8) (hk : k < 7) (h1 : oy_ k x → P 1 (pu_wi (pu_wi (pu_wi (pu_wi D 103 n 2) 106 n (nu_i k)) 107 n (ak_ k x)) 105 n (if k = 5 then nu_i (lb_ S) else 0))) (h0 : ¬ oy_ k x → P (-6) (rn_ D 6)) : pu_I X 161 [.ref 85, .int (nu_i n), .int (nu_i k), .int x] D P := by
  have c1 := rg_i (n := 8) (by omega) hn
  have hw : oy_ k x → pu_h161_92 X (nu_i n) (nu_i k) x D P := fun z => mp_161w hM hW hn hk (h1 z)
  have hb : ¬ oy_ k x → pu_h161_88 X (nu_i n) (nu_i k) x D P := fun z => pu_u161_88 (by rw [mp_149_6]; exact h0 z)
  have d49 : (k = 1 ∨ k = 3) → pu_h161_49 X (nu_i n) (nu_i k) x D P := by
    intro hk2
    refine pu_u161_49 ?_
    by_cases g1 : x < 0
    · rw [if_pos g1]; exact hb fun z => (z.1 hk2).1 g1
    rw [if_neg g1]
    by_cases g2 : 1 < x
    · rw [if_pos g2]
      exact hb fun z => by rcases rg_2.mp (z.1 hk2) with rfl | rfl <;> exact absurd g2 (by decide)
    rw [if_neg g2]
    have hx : rg_ x 2 := by
      obtain ⟨a, -, ha, rfl⟩ := rb_e (lo := 0) (hi := 1) (by omega) (by omega) ⟨g1, g2⟩
      exact rg_i (by omega) (by omega)
    refine pu_u161_58 ?_
    rw [if_neg (by rcases hk2 with rfl | rfl <;> decide)]
    refine pu_u161_71 ?_
    rw [if_neg (by rcases hk2 with rfl | rfl <;> decide)]
    exact hw ⟨fun _ => hx, fun z => by omega, fun z => by omega⟩
  have ng : ¬ nu_i k < -1 := by
    intro z
    have : nu_i k < 0 := Int32.lt_trans z (by decide)
    rw [nu_lt0 (by omega)] at this; exact this
  have n6 : ¬ 6 < nu_i k := by rw [nu_nlt (by omega) (by omega)]; show ¬ 6 < k; omega
  refine pu_e161 ?_
  rw [mp_151, nu_bT c1, if_neg (by decide), if_neg ng, if_neg n6, if_neg (show ¬ nu_i k = -1 by intro z; have : nu_i k < 0 := z ▸ (by decide); rw [nu_lt0 (by omega)] at this; exact this)]
  rcases (show k = 0 ∨ k = 1 ∨ k = 2 ∨ k = 3 ∨ k = 4 ∨ k = 5 ∨ k = 6 by omega) with rfl | rfl | rfl | rfl | rfl | rfl | rfl
  · rw [if_neg (by decide), if_neg (by decide)]
    refine pu_u161_58 ?_
    rw [if_neg (by decide)]
    refine pu_u161_71 ?_
    rw [if_neg (by decide)]
    exact hw ⟨fun z => by omega, fun z => by omega, fun z => by omega⟩
  · rw [if_pos (by decide)]; exact d49 (by omega)
  · rw [if_neg (by decide), if_neg (by decide)]
    refine pu_u161_58 ?_
    rw [if_neg (by decide)]
    refine pu_u161_71 ?_
    rw [if_neg (by decide)]
    exact hw ⟨fun z => by omega, fun z => by omega, fun z => by omega⟩
  · rw [if_neg (by decide), if_pos (by decide)]; exact d49 (by omega)
  · rw [if_neg (by decide), if_neg (by decide)]
    refine pu_u161_58 ?_
    rw [if_pos (by decide), mp_156]
    by_cases g : rg_ x 12
    · rw [nu_bT g, if_neg (by decide)]
      refine pu_u161_71 ?_
      rw [if_neg (by decide)]
      exact hw ⟨fun z => by omega, fun _ => g, fun z => by omega⟩
    · rw [nu_bF g, if_pos rfl]; exact hb fun z => g (z.2.1 rfl)
  · rw [if_neg (by decide), if_neg (by decide)]
    refine pu_u161_58 ?_
    rw [if_neg (by decide)]
    refine pu_u161_71 ?_
    rw [if_neg (by decide)]
    exact hw ⟨fun z => by omega, fun z => by omega, fun z => by omega⟩
  · rw [if_neg (by decide), if_neg (by decide)]
    refine pu_u161_58 ?_
    rw [if_neg (by decide)]
    refine pu_u161_71 ?_
    rw [if_pos (by decide)]
    by_cases g1 : x < 0
    · rw [if_pos g1]; exact hb fun z => (z.2.2 rfl).1 g1
    rw [if_neg g1]
    by_cases g2 : 511 < x
    · rw [if_pos g2]
      refine hb fun z => ?_
      obtain ⟨a, ha, rfl⟩ := rg_e (by omega) (z.2.2 rfl)
      rw [nu_nlt (by omega) (by omega)] at g2
      have : 511 < a := g2
      omega
    rw [if_neg g2]
    obtain ⟨a, -, ha, rfl⟩ := rb_e (lo := 0) (hi := 511) (by omega) (by omega) ⟨g1, g2⟩
    exact hw ⟨fun z => by omega, fun z => by omega, fun _ => rg_i (by omega) (by omega)⟩
theorem ak_e {k : Nat} {x : Int32} (hk : k < 7) (h : oy_ k x) : ∃ a, a < 512 ∧ ((k = 1 ∨ k = 3) → a < 2) ∧ ak_ k x = nu_i a := by
  unfold ak_
  rcases (show (k = 1 ∨ k = 3) ∨ k = 4 ∨ k = 6 ∨ ¬ (k = 1 ∨ k = 3 ∨ k = 4 ∨ k = 6) by omega) with e | e | e | e
  · obtain ⟨a, ha, rfl⟩ := rg_e (by omega) (h.1 e)
    exact ⟨a, by omega, fun _ => ha, if_pos (by omega)⟩
  · obtain ⟨a, ha, rfl⟩ := rg_e (by omega) (h.2.1 e)
    exact ⟨a, by omega, fun z => by omega, if_pos (by omega)⟩
  · obtain ⟨a, ha, rfl⟩ := rg_e (by omega) (h.2.2 e)
    exact ⟨a, by omega, fun z => by omega, if_pos (by omega)⟩
  · exact ⟨0, by omega, fun z => by omega, if_neg e⟩
theorem oq_91 (h : rel_ D) {x1 x2 x3 : Int32} : op_ X D 91 [.ref 0, .int x1, .int x2, .int x3] 161 [.ref 85, .int x1, .int x2, .int x3] := by
  obtain ⟨S, hr⟩ := h
  obtain ⟨hW, hC, hM, -⟩ := id hr
  have hn := wf_n hW
  refine pu_e91 ?_
  simp only [sp_138, sp_130_1, sp_130_6]
  have r19 : (∀ P, pu_h161_19 X (rf_ D 1) P → pu_I X 161 [.ref 85, .int x1, .int x2, .int x3] (rf_ D 1) P) → pu_I X 161 [.ref 85, .int x1, .int x2, .int x3] (rf_ D 1) (fun y2 D2 => -1 = y2 ∧ rel_ D2) := by
    intro hp
    refine hp _ (pu_u161_19 ?_)
    rw [mp_149_1]; exact ⟨rfl, S, rx_rf hr⟩
  by_cases c1 : rg_ x1 8
  · rw [nu_bT c1, if_neg (by decide)]
    by_cases h1 : x2 < -1
    · rw [if_pos h1]
      refine r19 fun P hP => pu_e161 ?_
      rw [mp_151, nu_bT c1, if_neg (by decide), if_pos h1]; exact hP
    rw [if_neg h1]
    by_cases h2 : 6 < x2
    · rw [if_pos h2]
      refine r19 fun P hP => pu_e161 ?_
      rw [mp_151, nu_bT c1, if_neg (by decide), if_neg h1, if_pos h2]; exact hP
    rw [if_neg h2]
    obtain ⟨n, hn8, rfl⟩ := rg_e (by omega) c1
    obtain ⟨s1, s2, s3⟩ := sv_ hn8
    rw [nu_in (by omega), nu_ix (by omega), s1]
    by_cases h3 : x2 = -1
    · subst h3
      rw [if_pos rfl]
      refine ⟨hn8, pu_e34 s2 ?_⟩
      refine pu_e161 ?_
      rw [mp_151, nu_bT c1, if_neg (by decide), if_neg h1, if_neg h2, if_pos rfl, nu_in (by omega), nu_ix (by omega)]
      refine ⟨hn8, rfl, S, rx_sh hr hn8 (fun q j z => ?_) (fun n' hn' hne => ⟨fun i hi => rfl, fun i hi => rfl⟩) (Or.inl ⟨wi_eq, ?_⟩)⟩
      · rw [wi_if, if_neg (by omega), wi_if, if_neg (by omega), wi_if, if_neg (by omega)]
      · rw [wi_q (by omega), wi_j (by omega), wi_eq]
    rw [if_neg h3]
    have hx0 : ¬ x2 < 0 := by
      intro z
      have g1 : x2.toInt < 0 := by have := Int32.lt_iff_toInt_lt.mp z; simpa using this
      have g2 : ¬ x2.toInt < -1 := fun y => h1 (Int32.lt_iff_toInt_lt.mpr (by simpa using y))
      exact h3 (Int32.toInt_inj.mp (by show x2.toInt = (-1 : Int32).toInt; have : (-1 : Int32).toInt = -1 := by decide
                                       omega))
    obtain ⟨k, -, hk6, rfl⟩ := rb_e (lo := 0) (hi := 6) (by omega) (by omega) ⟨hx0, h2⟩
    have hk : k < 7 := by omega
    rw [sp_146 hk]
    by_cases c3 : oy_ k x3
    · rw [nu_bT c3, if_neg (by decide), sp_55 hC hW, sp_36 s2 hk]
      obtain ⟨a, ha, ha2, hae⟩ := ak_e hk c3
      have hlb : lb_ S < 512 := bs_512 _ (by omega)
      refine ⟨hn8, ?_⟩
      have hM1 : re_M S (pu_wi (pu_wi (pu_wi (pu_wi D (69 + 2 * n) 1 (nu_i k)) (69 + 2 * n) 2 0) (69 + 2 * n) 3 (ak_ k x3)) (69 + 2 * n) 4 (nu_i (lb_ S))) := rm_ag hM (ag_wi (Z := fun q _ => q = 69 + 2 * n) (ag_wi (ag_wi (ag_wi (ag_rf D) rfl) rfl) rfl) rfl) (fun q j z => by omega)
      refine mp_161 hM1 hW hn8 hk (fun _ => ⟨rfl, S, rx_sh hr hn8 (fun q j z => ?_) (fun n' hn' hne => ⟨fun i hi => rfl, fun i hi => rfl⟩) (Or.inr (Or.inr ⟨k, a, lb_ S, if k = 5 then lb_ S else 0, ⟨?_, ?_, ?_, hk, ha, hlb, ha2⟩, ?_, fun z => if_pos z, ?_, ?_, ?_, ?_⟩))⟩) (fun z => absurd c3 z)
      · rw [wi_if, if_neg (by omega), wi_if, if_neg (by omega), wi_if, if_neg (by omega), wi_if, if_neg (by omega), wi_if, if_neg (by omega), wi_if, if_neg (by omega), wi_if, if_neg (by omega), wi_if, if_neg (by omega)]
      · rw [wi_q (by omega), wi_q (by omega), wi_q (by omega), wi_q (by omega), wi_j (by omega), wi_j (by omega), wi_j (by omega), wi_eq]
      · rw [wi_q (by omega), wi_q (by omega), wi_q (by omega), wi_q (by omega), wi_j (by omega), wi_eq, hae]
      · rw [wi_q (by omega), wi_q (by omega), wi_q (by omega), wi_q (by omega), wi_eq]
      · split <;> omega
      · rw [wi_q (by omega), wi_q (by omega), wi_q (by omega), wi_eq]
      · rw [wi_q (by omega), wi_q (by omega), wi_eq]
      · rw [wi_q (by omega), wi_eq, hae]
      · rw [wi_eq]; split <;> rfl
    · rw [nu_bF c3, if_pos rfl]
      exact mp_161 (rm_rf hM) hW hn8 hk (fun z => absurd z c3) (fun _ => ⟨rfl, S, rx_rf hr⟩)
  · rw [nu_bF c1, if_pos rfl]
    refine r19 fun P hP => pu_e161 ?_
    rw [mp_151, nu_bF c1, if_pos rfl]; exact hP
end ST
