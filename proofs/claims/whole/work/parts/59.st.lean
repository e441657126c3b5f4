/-! ACTS and their trace. -/
section ST
variable {X : px_X} {S : Nat → Nat → Nat → Nat} {D : pu_D}
/-- the class's trace l since D0; the reference's -/
def tk_ (D0 : pu_D) (l : List Nat) (D : pu_D) : Prop := D.1 66 1 = nu_i l.length ∧ (∀ i, i < l.length → D.1 67 i = nu_i (l.getD i 0)) ∧ ag_ (fun q j => (q = 66 ∧ j = 1) ∨ q = 67) D0 D
def tx_ (D0 : pu_D) (l : List Nat) (D : pu_D) : Prop := D.1 85 49 = nu_i l.length ∧ (∀ i, i < l.length → D.1 116 i = nu_i (l.getD i 0)) ∧ ag_ (fun q j => (q = 85 ∧ j = 49) ∨ q = 116) D0 D
theorem gd_ {l : List Nat} {b i : Nat} (hi : i < (l ++ [b]).length) : (l ++ [b]).getD i 0 = if i = l.length then b else l.getD i 0 := by
  rw [List.length_append] at hi
  have hi2 : i < l.length + 1 := hi
  by_cases h : i = l.length
  · subst h; rw [if_pos rfl]; simp [List.getD]
  · rw [if_neg h]
    have : i < l.length := by omega
    simp [List.getD, List.getElem?_append_left this]
theorem sp_4 {D0 D1 : pu_D} {l : List Nat} {b : Nat} {P : pu_D → Prop} (h : tk_ D0 l D1) (hl : l.length < 20) (hP : ∀ D', tk_ D0 (l ++ [b]) D' → P D') : pu_V X 4 [.ref 66, .int (nu_i b)] D1 P := by
  obtain ⟨h1, h2, h3⟩ := h
  refine pu_e4 ?_
  rw [h1, if_pos (show nu_i l.length < (20 : Int32) from nu_ltp (b := 20) (by omega) hl), nu_in (by omega), nu_ix (by omega)]
  refine ⟨hl, hP _ ⟨?_, fun i hi => ?_, ag_wi (ag_wi h3 (Or.inr rfl)) (Or.inl ⟨rfl, rfl⟩)⟩⟩
  · rw [wi_eq, wi_q (by omega), h1, nu_addn, List.length_append]; rfl
  · rw [wi_q (by omega), gd_ hi]
    by_cases e : i = l.length
    · subst e; rw [wi_eq, if_pos rfl]
    · rw [wi_j e, if_neg e]
      rw [List.length_append] at hi
      have hi2 : i < l.length + 1 := hi
      exact h2 i (by omega)
theorem mp_236 {D0 D1 : pu_D} {l : List Nat} {b : Nat} {P : pu_D → Prop} (h : tx_ D0 l D1) (hl : l.length < 20) (hP : ∀ D', tx_ D0 (l ++ [b]) D' → P D') : pu_V X 236 [.ref 85, .int (nu_i b)] D1 P := by
  obtain ⟨h1, h2, h3⟩ := h
  refine pu_e236 ?_
  rw [h1, if_pos (show nu_i l.length < (20 : Int32) from nu_ltp (b := 20) (by omega) hl), nu_in (by omega), nu_ix (by omega)]
  refine ⟨hl, hP _ ⟨?_, fun i hi => ?_, ag_wi (ag_wi h3 (Or.inr rfl)) (Or.inl ⟨rfl, rfl⟩)⟩⟩
  · rw [wi_eq, wi_q (by omega), h1, nu_addn, List.length_append]; rfl
  · rw [wi_q (by omega), gd_ hi]
    by_cases e : i = l.length
    · subst e; rw [wi_eq, if_pos rfl]
    · rw [wi_j e, if_neg e]
      rw [List.length_append] at hi
      have hi2 : i < l.length + 1 := hi
      exact h2 i (by omega)
/-- the bodies begun by burns, falls; what they answer -/
def b5_ (k : Nat) : List Nat := (if k = 1 then [20] else if k = 3 then [41] else if k = 5 then [60] else []) ++ [10]
def v5_ (k n a : Nat) (x : Int32) : Int32 := if k = 1 then x + nu_i n + nu_i a else if k = 3 then x + nu_i n - nu_i n else if k = 5 then (x + nu_i n) ^^^ 5 else x + nu_i n
def b6_ (k : Nat) : List Nat := (if k = 3 then [40, 30] else if k = 2 ∨ k = 5 then [30] else if k = 6 then [70] else []) ++ [11] ++ b5_ k
def v6_ (k n a : Nat) (x : Int32) : Int32 := if k = 2 ∨ k = 5 then v5_ k n a x * 2 * 3 else if k = 3 then v5_ k n a (x + 1) * 2 * 3 else if k = 6 then v5_ k n a x * 2 * 2 else v5_ k n a x * 2
theorem sp_5 {D0 D1 : pu_D} {l : List Nat} {k n a : Nat} {x : Int32} {P : Int32 → pu_D → Prop} (hk : k < 7) (hk0 : D0.1 66 2 = nu_i k) (hn0 : D0.1 66 3 = nu_i n) (ha0 : D0.1 66 4 = nu_i a) (h : tk_ D0 l D1) (hl : l.length < 18) (hP : ∀ D', tk_ D0 (l ++ b5_ k) D' → P (v5_ k n a x) D') : pu_I X 5 [.ref 66, .int x] D1 P := by
  have e2 : ∀ {l D}, tk_ D0 l D → D.1 66 2 = nu_i k := fun h => (h.2.2.1 _ _ (by omega)).trans hk0
  have e3 : ∀ {l D}, tk_ D0 l D → D.1 66 3 = nu_i n := fun h => (h.2.2.1 _ _ (by omega)).trans hn0
  have e4 : ∀ {l D}, tk_ D0 l D → D.1 66 4 = nu_i a := fun h => (h.2.2.1 _ _ (by omega)).trans ha0
  have last : ∀ (l2 : List Nat) (D2 : pu_D), tk_ D0 l2 D2 → l2.length < 20 → l2 ++ [10] = l ++ b5_ k → pu_h5_42 X x D2 P := by
    intro l2 D2 h2 hl2 he
    refine pu_u5_42 ?_
    refine sp_4 (b := 10) h2 hl2 fun D3 h3 => ?_
    rw [e2 h3, e3 h3]
    rw [he] at h3
    have hp := hP D3 h3
    rcases (show k = 0 ∨ k = 1 ∨ k = 2 ∨ k = 3 ∨ k = 4 ∨ k = 5 ∨ k = 6 by omega) with rfl | rfl | rfl | rfl | rfl | rfl | rfl
    · rw [if_neg (by decide), if_neg (by decide), if_neg (by decide)]; exact hp
    · rw [if_pos (by decide), e4 h3]; exact hp
    · rw [if_neg (by decide), if_neg (by decide), if_neg (by decide)]; exact hp
    · rw [if_neg (by decide), if_pos (by decide)]; exact hp
    · rw [if_neg (by decide), if_neg (by decide), if_neg (by decide)]; exact hp
    · rw [if_neg (by decide), if_neg (by decide), if_pos (by decide)]; exact hp
    · rw [if_neg (by decide), if_neg (by decide), if_neg (by decide)]; exact hp
  have plain : (k = 0 ∨ k = 2 ∨ k = 4 ∨ k = 6) → pu_I X 5 [.ref 66, .int x] D1 P := by
    intro hk2
    have g : ∀ c : Nat, c = 1 ∨ c = 3 ∨ c = 5 → ¬ nu_i k = nu_i c := fun c hc => by rw [nu_eq (by omega) (by omega)]; omega
    refine pu_e5 ?_
    rw [e2 h, if_neg (show ¬ nu_i k = (1 : Int32) from g 1 (by omega))]
    refine pu_u5_14 ?_
    rw [e2 h, if_neg (show ¬ nu_i k = (3 : Int32) from g 3 (by omega))]
    refine pu_u5_28 ?_
    rw [e2 h, if_neg (show ¬ nu_i k = (5 : Int32) from g 5 (by omega))]
    refine last l D1 h (by omega) ?_
    unfold b5_
    rw [if_neg (by omega), if_neg (by omega), if_neg (by omega)]; rfl
  rcases (show (k = 0 ∨ k = 2 ∨ k = 4 ∨ k = 6) ∨ k = 1 ∨ k = 3 ∨ k = 5 by omega) with hk2 | rfl | rfl | rfl
  · exact plain hk2
  · refine pu_e5 ?_
    rw [e2 h, if_pos (by decide)]
    refine sp_4 (b := 20) h (by omega) fun D2 h2 => ?_
    refine pu_u5_14 ?_
    rw [e2 h2, if_neg (by decide)]
    refine pu_u5_28 ?_
    rw [e2 h2, if_neg (by decide)]
    refine last _ D2 h2 (by rw [List.length_append]; show l.length + 1 < 20; omega) (by rw [List.append_assoc]; rfl)
  · refine pu_e5 ?_
    rw [e2 h, if_neg (by decide)]
    refine pu_u5_14 ?_
    rw [e2 h, if_pos (by decide)]
    refine sp_4 (b := 41) h (by omega) fun D2 h2 => ?_
    refine pu_u5_28 ?_
    rw [e2 h2, if_neg (by decide)]
    refine last _ D2 h2 (by rw [List.length_append]; show l.length + 1 < 20; omega) (by rw [List.append_assoc]; rfl)
  · refine pu_e5 ?_
    rw [e2 h, if_neg (by decide)]
    refine pu_u5_14 ?_
    rw [e2 h, if_neg (by decide)]
    refine pu_u5_28 ?_
    rw [e2 h, if_pos (by decide)]
    refine sp_4 (b := 60) h (by omega) fun D2 h2 => ?_
    refine last _ D2 h2 (by rw [List.length_append]; show l.length + 1 < 20; omega) (by rw [List.append_assoc]; rfl)
theorem mp_237 {D0 D1 : pu_D} {l : List Nat} {k n a : Nat} {x : Int32} {P : Int32 → pu_D → Prop} (hn : n < 8) (hk : k < 7) (hk0 : D0.1 106 n = nu_i k) (ha0 : D0.1 107 n = nu_i a) (h : tx_ D0 l D1) (hl : l.length < 18) (hP : ∀ D', tx_ D0 (l ++ b5_ k) D' → P (v5_ k n a x) D') : pu_I X 237 [.ref 85, .int (nu_i n), .int x] D1 P := by
  have e2 : ∀ {l D}, tx_ D0 l D → D.1 106 n = nu_i k := fun h => (h.2.2.1 _ _ (by omega)).trans hk0
  have e4 : ∀ {l D}, tx_ D0 l D → D.1 107 n = nu_i a := fun h => (h.2.2.1 _ _ (by omega)).trans ha0
  have i1 : (px_in (nu_i n) 8 = true) := by rw [nu_in (by omega)]; exact hn
  have last : ∀ (l2 : List Nat) (D2 : pu_D), tx_ D0 l2 D2 → l2.length < 20 → l2 ++ [10] = l ++ b5_ k → pu_h237_40 X (nu_i n) x (nu_i k) D2 P := by
    intro l2 D2 h2 hl2 he
    refine pu_u237_40 ?_
    refine mp_236 (b := 10) h2 hl2 fun D3 h3 => ?_
    rw [he] at h3
    have hp := hP D3 h3
    rw [nu_ix (by omega)]
    rcases (show k = 0 ∨ k = 1 ∨ k = 2 ∨ k = 3 ∨ k = 4 ∨ k = 5 ∨ k = 6 by omega) with rfl | rfl | rfl | rfl | rfl | rfl | rfl
    · rw [if_neg (by decide), if_neg (by decide), if_neg (by decide)]; exact hp
    · rw [if_pos (by decide), e4 h3]; exact ⟨i1, hp⟩
    · rw [if_neg (by decide), if_neg (by decide), if_neg (by decide)]; exact hp
    · rw [if_neg (by decide), if_pos (by decide)]; exact hp
    · rw [if_neg (by decide), if_neg (by decide), if_neg (by decide)]; exact hp
    · rw [if_neg (by decide), if_neg (by decide), if_pos (by decide)]; exact hp
    · rw [if_neg (by decide), if_neg (by decide), if_neg (by decide)]; exact hp
  refine pu_e237 ?_
  rw [nu_ix (by omega), e2 h]
  refine ⟨i1, ?_⟩
  rcases (show (k = 0 ∨ k = 2 ∨ k = 4 ∨ k = 6) ∨ k = 1 ∨ k = 3 ∨ k = 5 by omega) with hk2 | rfl | rfl | rfl
  · have g : ∀ c : Nat, c = 1 ∨ c = 3 ∨ c = 5 → ¬ nu_i k = nu_i c := fun c hc => by rw [nu_eq (by omega) (by omega)]; omega
    rw [if_neg (show ¬ nu_i k = (1 : Int32) from g 1 (by omega))]
    refine pu_u237_18 ?_
    rw [if_neg (show ¬ nu_i k = (3 : Int32) from g 3 (by omega))]
    refine pu_u237_29 ?_
    rw [if_neg (show ¬ nu_i k = (5 : Int32) from g 5 (by omega))]
    refine last l D1 h (by omega) ?_
    unfold b5_
    rw [if_neg (by omega), if_neg (by omega), if_neg (by omega)]; rfl
  · rw [if_pos (by decide)]
    refine mp_236 (b := 20) h (by omega) fun D2 h2 => ?_
    refine pu_u237_18 ?_
    rw [if_neg (by decide)]
    refine pu_u237_29 ?_
    rw [if_neg (by decide)]
    refine last _ D2 h2 (by rw [List.length_append]; show l.length + 1 < 20; omega) (by rw [List.append_assoc]; rfl)
  · rw [if_neg (by decide)]
    refine pu_u237_18 ?_
    rw [if_pos (by decide)]
    refine mp_236 (b := 41) h (by omega) fun D2 h2 => ?_
    refine pu_u237_29 ?_
    rw [if_neg (by decide)]
    refine last _ D2 h2 (by rw [List.length_append]; show l.length + 1 < 20; omega) (by rw [List.append_assoc]; rfl)
  · rw [if_neg (by decide)]
    refine pu_u237_18 ?_
    rw [if_neg (by decide)]
    refine pu_u237_29 ?_
    rw [if_pos (by decide)]
    refine mp_236 (b := 60) h (by omega) fun D2 h2 => ?_
    refine last _ D2 h2 (by rw [List.length_append]; show l.length + 1 < 20; omega) (by rw [List.append_assoc]; rfl)
end ST
