/-! THE IMAGE: one street copied to another; the reference's columns kept and taken back. -/
section ST
variable {X : px_X} {S : Nat → Nat → Nat → Nat} {D : pu_D}
theorem cp_if {s d q j : Nat} {m : Int32} : (pu_cpI D s d 0 0 m).1 q j = if q = d ∧ j < m.toNatClampNeg then D.1 s j else D.1 q j := by
  show px_row D.1 d (va_cpy (D.1 s) (D.1 d) 0 0 m.toNatClampNeg) q j = _
  unfold px_row va_cpy
  by_cases h : q = d
  · subst h
    rw [if_pos rfl]
    by_cases h2 : j < m.toNatClampNeg
    · rw [if_pos (by omega), if_pos ⟨rfl, h2⟩]; exact congrArg (D.1 s) (by omega)
    · rw [if_neg (by omega), if_neg (by omega)]
  · rw [if_neg h, if_neg (by omega)]
theorem ru_B : [1, 17, 33].all (fun b => decide (pu_cl b = 4) && decide (pu_rf b 0 = b + 1) && decide (pu_ln (b + 1) = 4) && (List.range 7).all fun t => decide (pu_rf b (t + 1) = b + 2 + 2 * t) && decide (pu_cl (b + 2 + 2 * t) = 6) && decide (pu_rf (b + 2 + 2 * t) 1 = b + 3 + 2 * t) && decide (pu_ln (b + 3 + 2 * t) = mo_ t * 4)) = true := by decide +kernel
theorem rq_ {b : Nat} (hb : b = 1 ∨ b = 17 ∨ b = 33) : pu_cl b = 4 ∧ pu_rf b 0 = b + 1 ∧ pu_ln (b + 1) = 4 ∧ ∀ t, t < 7 → pu_rf b (t + 1) = b + 2 + 2 * t ∧ pu_cl (b + 2 + 2 * t) = 6 ∧ pu_rf (b + 2 + 2 * t) 1 = b + 3 + 2 * t ∧ pu_ln (b + 3 + 2 * t) = mo_ t * 4 := by
  have h := List.all_eq_true.mp ru_B b (by rcases hb with rfl | rfl | rfl <;> simp)
  simp only [Bool.and_eq_true, decide_eq_true_eq] at h
  refine ⟨h.1.1.1, h.1.1.2, h.1.2, fun t ht => ?_⟩
  have h2 := List.all_eq_true.mp h.2 t (List.mem_range.mpr ht)
  simp only [Bool.and_eq_true, decide_eq_true_eq] at h2
  exact ⟨h2.1.1.1, h2.1.1.2, h2.1.2, h2.2⟩
def c85_ (D : pu_D) (b b' t : Nat) : pu_D := pu_wi (pu_cpI D (b + 3 + 2 * t) (b' + 3 + 2 * t) 0 0 (nu_i (mo_ t * 4))) (b' + 2 + 2 * t) 2 ((pu_cpI D (b + 3 + 2 * t) (b' + 3 + 2 * t) 0 0 (nu_i (mo_ t * 4))).1 (b + 2 + 2 * t) 2)
def c46_ (D : pu_D) (b b' : Nat) : Nat → pu_D
  | 0 => pu_cpI D (b + 1) (b' + 1) 0 0 4
  | t + 1 => c85_ (c46_ D b b' t) b b' t
theorem sp_85 {b b' t : Nat} {P : pu_D → Prop} (hb : b = 1 ∨ b = 17 ∨ b = 33) (hb' : b' = 1 ∨ b' = 17 ∨ b' = 33) (ht : t < 7) : pu_V X 85 [.ref (b' + 2 + 2 * t), .ref (b + 2 + 2 * t)] D P = P (c85_ D b b' t) := by
  obtain ⟨-, -, -, g⟩ := rq_ hb
  obtain ⟨-, -, -, g'⟩ := rq_ hb'
  obtain ⟨g1, g2, g3, g4⟩ := g t ht
  obtain ⟨k1, k2, k3, k4⟩ := g' t ht
  have := mo_le ht
  refine pu_V_of (pu_e85 k2 g2 ?_) P
  rw [g3, k3, g4, k4, ite_self]
  refine ⟨⟨by decide, by decide, ?_, ?_, ?_⟩, rfl⟩
  · show ¬ nu_i (mo_ t * 4) < 0
    rw [nu_lt0 (by omega)]; exact fun z => z
  · show 0 + (nu_i (mo_ t * 4)).toNatClampNeg ≤ _
    rw [nu_ix (by omega), g4]; omega
  · show 0 + (nu_i (mo_ t * 4)).toNatClampNeg ≤ _
    rw [nu_ix (by omega), k4]; omega
theorem c46_i {b b' : Nat} (hb : b = 1 ∨ b = 17 ∨ b = 33) (hb' : b' = 1 ∨ b' = 17 ∨ b' = 33) (hne : b ≠ b') : ∀ n, n ≤ 7 → ag_ (fun q j => b' + 1 ≤ q ∧ q ≤ b' + 15 ∧ ¬ (j = 0 ∧ q % 2 = 1)) D (c46_ D b b' n) ∧ (∀ j, j < 4 → (c46_ D b b' n).1 (b' + 1) j = D.1 (b + 1) j) ∧ ∀ t, t < n → (c46_ D b b' n).1 (b' + 2 + 2 * t) 2 = D.1 (b + 2 + 2 * t) 2 ∧ ∀ i, i < mo_ t * 4 → (c46_ D b b' n).1 (b' + 3 + 2 * t) i = D.1 (b + 3 + 2 * t) i
  | 0, _ => by
    have e : ∀ q j, (c46_ D b b' 0).1 q j = if q = b' + 1 ∧ j < 4 then D.1 (b + 1) j else D.1 q j := fun q j => cp_if
    refine ⟨⟨fun q j z => ?_, rfl⟩, fun j hj => ?_, fun t ht => absurd ht (Nat.not_lt_zero _)⟩
    · rw [e, if_neg (fun y => z ⟨by omega, by omega, by omega⟩)]
    · rw [e, if_pos ⟨rfl, hj⟩]
  | n + 1, hn => by
    obtain ⟨h1, h2, h3⟩ := c46_i hb hb' hne n (by omega)
    have hm := mo_le (show n < 7 by omega)
    generalize hE : c46_ D b b' n = E at h1 h2 h3
    have e : ∀ q j, (c46_ D b b' (n + 1)).1 q j = if q = b' + 2 + 2 * n ∧ j = 2 then E.1 (b + 2 + 2 * n) 2 else if q = b' + 3 + 2 * n ∧ j < mo_ n * 4 then E.1 (b + 3 + 2 * n) j else E.1 q j := by
      intro q j
      show (c85_ (c46_ D b b' n) b b' n).1 q j = _
      rw [hE]
      unfold c85_
      rw [wi_if, cp_if, cp_if, nu_ix (by omega)]
      rw [if_neg (show ¬ (b + 2 + 2 * n = b' + 3 + 2 * n ∧ 2 < mo_ n * 4) by omega)]
    refine ⟨⟨fun q j z => ?_, ?_⟩, fun j hj => ?_, fun t ht => ?_⟩
    · rw [e, if_neg (fun y => z ⟨by omega, by omega, by omega⟩), if_neg (fun y => z ⟨by omega, by omega, by omega⟩)]
      exact h1.1 q j z
    · show (c85_ (c46_ D b b' n) b b' n).2 = _
      rw [hE]; exact h1.2
    · rw [e, if_neg (by omega), if_neg (by omega)]; exact h2 j hj
    · by_cases et : t = n
      · subst et
        refine ⟨?_, fun i hi => ?_⟩
        · rw [e, if_pos ⟨rfl, rfl⟩, h1.1 _ _ (by omega)]
        · rw [e, if_neg (by omega), if_pos ⟨rfl, hi⟩, h1.1 _ _ (by omega)]
      · obtain ⟨k1, k2⟩ := h3 t (by omega)
        refine ⟨?_, fun i hi => ?_⟩
        · rw [e, if_neg (by omega), if_neg (by omega)]; exact k1
        · rw [e, if_neg (by omega), if_neg (by omega)]; exact k2 i hi
theorem sp_46 {b b' : Nat} {P : pu_D → Prop} (hW : wf_ S) (hb : b = 1 ∨ b = 17 ∨ b = 33) (hb' : b' = 1 ∨ b' = 17 ∨ b' = 33) (hne : b ≠ b') (hC : re_C b S D) (hmo : ∀ t, t < 7 → D.1 (b' + 2 + 2 * t) 0 = nu_i (mo_ t)) (hP : ∀ D', re_C b' S D' → ag_ (fun q j => b' + 1 ≤ q ∧ q ≤ b' + 15 ∧ ¬ (j = 0 ∧ q % 2 = 1)) D D' → P D') : pu_V X 46 [.ref b', .ref b] D P := by
  obtain ⟨g1, g2, g3, g⟩ := rq_ hb
  obtain ⟨k1, k2, k3, k⟩ := rq_ hb'
  refine pu_e46 k1 g1 ?_
  rw [g2, k2]
  refine ⟨⟨by decide, by decide, by decide, ?_, ?_⟩, ?_⟩
  · rw [g3]; decide
  · rw [k3]; decide
  have s : ∀ t, t < 7 → ∀ (E : pu_D) Q, pu_V X 85 [.ref (pu_rf b' (t + 1)), .ref (pu_rf b (t + 1))] E Q = Q (c85_ E b b' t) := fun t ht E Q => by
    rw [(g t ht).1, (k t ht).1]; exact sp_85 hb hb' ht
  refine (s 0 (by omega) _ _).mpr ?_
  refine (s 1 (by omega) _ _).mpr ?_
  refine (s 2 (by omega) _ _).mpr ?_
  refine (s 3 (by omega) _ _).mpr ?_
  refine (s 4 (by omega) _ _).mpr ?_
  refine (s 5 (by omega) _ _).mpr ?_
  refine (s 6 (by omega) _ _).mpr ?_
  obtain ⟨i1, i2, i3⟩ := c46_i (D := D) hb hb' hne 7 (by omega)
  refine hP (c46_ D b b' 7) ⟨fun t ht => ⟨?_, ?_, fun i hi w hw => ?_⟩, fun j hj => ?_⟩ i1
  · rw [(i3 t ht).1]; exact (hC.1 t ht).1
  · rw [i1.1 _ _ (by omega)]; exact hmo t ht
  · have := hW.1 t ht
    rw [(i3 t ht).2 _ (by omega)]; exact (hC.1 t ht).2.2 i hi w hw
  · rw [i2 j hj]; exact hC.2 j hj
/-- ints written in a row -/
def iw_ (D : pu_D) (q off : Nat) (f : Nat → Int32) : Nat → pu_D
  | 0 => D
  | n + 1 => pu_wi (iw_ D q off f n) q (off + n) (f n)
theorem iw_1 {q off : Nat} {f : Nat → Int32} {q' j : Nat} : ∀ n, (iw_ D q off f n).1 q' j = if q' = q ∧ off ≤ j ∧ j < off + n then f (j - off) else D.1 q' j
  | 0 => by rw [if_neg (by omega)]; rfl
  | n + 1 => by
    rw [iw_, wi_if, iw_1 n]
    by_cases h : q' = q ∧ j = off + n
    · rw [if_pos h, if_pos (by omega), show j - off = n by omega]
    · rw [if_neg h]
      by_cases h2 : q' = q ∧ off ≤ j ∧ j < off + n
      · rw [if_pos h2, if_pos (by omega)]
      · rw [if_neg h2, if_neg (by omega)]
theorem iw_2 {q off : Nat} {f : Nat → Int32} : ∀ n, (iw_ D q off f n).2 = D.2
  | 0 => rfl
  | n + 1 => iw_2 n
def lc_ (c : Nat) : Nat := [6, 6, 6, 6, 9, 9, 9, 9, 12, 12, 12, 12, 8, 8, 8, 6].getD c 0
def oc_ (c : Nat) : Nat := [0, 6, 12, 18, 24, 33, 42, 51, 60, 72, 84, 96, 108, 116, 124, 132, 138].getD c 0
theorem oc_B : (List.range 16).all (fun c => decide (oc_ (c + 1) = oc_ c + lc_ c) && decide (oc_ c + lc_ c ≤ 138) && decide (pu_cl (87 + c) = 100) && decide (pu_ln (87 + c) = lc_ c) && (List.range 16).all fun n => decide (¬ c < n) || decide (oc_ c + lc_ c ≤ oc_ n)) = true := by decide +kernel
theorem oc_h {c : Nat} (hc : c < 16) : oc_ (c + 1) = oc_ c + lc_ c ∧ oc_ c + lc_ c ≤ 138 ∧ pu_cl (87 + c) = 100 ∧ pu_ln (87 + c) = lc_ c ∧ ∀ n, n < 16 → c < n → oc_ c + lc_ c ≤ oc_ n := by
  have h := List.all_eq_true.mp oc_B c (List.mem_range.mpr hc)
  simp only [Bool.and_eq_true, decide_eq_true_eq] at h
  refine ⟨h.1.1.1.1, h.1.1.1.2, h.1.1.2, h.1.2, fun n hn hcn => ?_⟩
  have h2 := List.all_eq_true.mp h.2 n (List.mem_range.mpr hn)
  simp only [Bool.or_eq_true, decide_eq_true_eq] at h2
  exact h2.resolve_left (fun z => z hcn)
theorem mp_242s {c : Nat} {P : Int32 → pu_D → Prop} (hc : c < 16) : pu_I X 242 [.ref 85, .ref (87 + c), .int (nu_i (lc_ c)), .int (nu_i (oc_ c)), .int 0] D P = P (nu_i (oc_ (c + 1))) (iw_ D 112 (oc_ c) (fun i => D.1 (87 + c) i) (lc_ c)) := by
  obtain ⟨h1, h2, h3, h4, -⟩ := oc_h hc
  refine pu_I_of (pu_e242 h3 ?_) P
  refine lo_ix (fun a x => pu_h242_3 X (87 + c) (nu_i (lc_ c)) (nu_i (oc_ c)) 0 x a _) (lc_ c) (iw_ D 112 (oc_ c) (fun i => D.1 (87 + c) i)) (fun i hi hh => ?_) ?_
  · refine pu_u242_3 h3 ?_
    rw [if_pos (nu_ltp (by omega) hi), if_pos rfl, h4]
    simp (disch := omega) only [nu_add, nu_in, nu_ix, nu_addn]
    rw [iw_1, if_neg (by omega)]
    rw [iw_] at hh
    exact ⟨hi, by omega, hh⟩
  · refine pu_u242_3 h3 ?_
    rw [if_neg (nu_ltx (by omega) (by omega)), h1]
    exact ⟨nu_add .., rfl⟩
theorem mp_242r {c : Nat} {P : Int32 → pu_D → Prop} (hc : c < 16) : pu_I X 242 [.ref 85, .ref (87 + c), .int (nu_i (lc_ c)), .int (nu_i (oc_ c)), .int 1] D P = P (nu_i (oc_ (c + 1))) (iw_ D (87 + c) 0 (fun i => D.1 112 (oc_ c + i)) (lc_ c)) := by
  obtain ⟨h1, h2, h3, h4, -⟩ := oc_h hc
  refine pu_I_of (pu_e242 h3 ?_) P
  refine lo_ix (fun a x => pu_h242_3 X (87 + c) (nu_i (lc_ c)) (nu_i (oc_ c)) 1 x a _) (lc_ c) (iw_ D (87 + c) 0 (fun i => D.1 112 (oc_ c + i))) (fun i hi hh => ?_) ?_
  · refine pu_u242_3 h3 ?_
    rw [if_pos (nu_ltp (by omega) hi), if_neg (by decide), h4]
    simp (disch := omega) only [nu_add, nu_in, nu_ix, nu_addn]
    rw [iw_1, if_neg (by omega)]
    rw [iw_, Nat.zero_add] at hh
    exact ⟨by omega, hi, hh⟩
  · refine pu_u242_3 h3 ?_
    rw [if_neg (nu_ltx (by omega) (by omega)), h1]
    exact ⟨nu_add .., rfl⟩
end ST
