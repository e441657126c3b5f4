/-! ACTS: falls, costs; act and trace. -/
section ST
variable {X : px_X} {S : Nat → Nat → Nat → Nat} {D : pu_D}
theorem b5_l {k : Nat} : (b5_ k).length ≤ 2 := by
  unfold b5_
  rw [List.length_append]
  split
  · decide
  · split
    · decide
    · split <;> decide
theorem b6_l {k : Nat} : (b6_ k).length ≤ 5 := by
  have := b5_l (k := k)
  unfold b6_
  rw [List.length_append, List.length_append]
  have h1 : ([11] : List Nat).length = 1 := rfl
  have h2 : (if k = 3 then [40, 30] else if k = 2 ∨ k = 5 then [30] else if k = 6 then [70] else [] : List Nat).length ≤ 2 := by
    split
    · decide
    · split
      · decide
      · split <;> decide
  omega
theorem sp_6 {D0 D1 : pu_D} {l : List Nat} {k n a : Nat} {x : Int32} {P : Int32 → pu_D → Prop} (hk : k < 7) (hk0 : D0.1 66 2 = nu_i k) (hn0 : D0.1 66 3 = nu_i n) (ha0 : D0.1 66 4 = nu_i a) (h : tk_ D0 l D1) (hl : l.length < 14) (hP : ∀ D', tk_ D0 (l ++ b6_ k) D' → P (v6_ k n a x) D') : pu_I X 6 [.ref 66, .int x] D1 P := by
  have e2 : ∀ {l D}, tk_ D0 l D → D.1 66 2 = nu_i k := fun h => (h.2.2.1 _ _ (by omega)).trans hk0
  have L1 : ∀ (l : List Nat) (b : Nat), (l ++ [b]).length = l.length + 1 := fun l b => by rw [List.length_append]; rfl
  have last : ∀ (l2 : List Nat) (D2 : pu_D) (y : Int32), (if k = 2 ∨ k = 3 ∨ k = 5 then y = 1 else y = 0) → tk_ D0 l2 D2 → l2.length < 17 → l2 ++ [11] ++ b5_ k = l ++ b6_ k → pu_h6_69 X x y D2 P := by
    intro l2 D2 y hy h2 hl2 he
    refine pu_u6_69 ?_
    refine sp_4 (b := 11) h2 (by omega) fun D3 h3 => ?_
    rw [e2 h3]
    by_cases k3 : k = 3
    · subst k3
      rw [if_pos (by omega)] at hy
      rw [if_pos (by decide)]
      refine sp_5 hk hk0 hn0 ha0 h3 (by rw [L1]; omega) fun D4 h4 => ?_
      rw [he] at h4
      rw [hy, if_neg (by decide)]; exact hP D4 h4
    · rw [if_neg (show ¬ nu_i k = (3 : Int32) by rw [nu_eqn (by omega) (by omega)]; exact k3)]
      refine sp_5 hk hk0 hn0 ha0 h3 (by rw [L1]; omega) fun D4 h4 => ?_
      rw [he] at h4
      have hp := hP D4 h4
      have ek := e2 h4
      by_cases k25 : k = 2 ∨ k = 5
      · rw [if_pos (by omega)] at hy
        rw [hy, if_neg (by decide)]
        unfold v6_ at hp
        rw [if_pos k25] at hp; exact hp
      · rw [if_neg (by omega)] at hy
        rw [hy, if_pos rfl, ek]
        unfold v6_ at hp
        rw [if_neg k25, if_neg k3] at hp
        by_cases k6 : k = 6
        · rw [if_pos (show nu_i k = (6 : Int32) by rw [k6]; rfl)]; rw [if_pos k6] at hp; exact hp
        · rw [if_neg (show ¬ nu_i k = (6 : Int32) by rw [nu_eqn (by omega) (by omega)]; exact k6)]; rw [if_neg k6] at hp; exact hp
  have B : ∀ l : List Nat, l ++ [11] ++ b5_ k = l ++ ([11] ++ b5_ k) := fun l => List.append_assoc ..
  refine pu_e6 ?_
  rw [e2 h]
  rcases (show (k = 0 ∨ k = 1 ∨ k = 4) ∨ k = 2 ∨ k = 3 ∨ k = 5 ∨ k = 6 by omega) with hk2 | rfl | rfl | rfl | rfl
  · have g : ∀ c : Nat, c = 2 ∨ c = 3 ∨ c = 5 ∨ c = 6 → ¬ nu_i k = nu_i c := fun c hc => by rw [nu_eq (by omega) (by omega)]; omega
    rw [if_neg (show ¬ nu_i k = (2 : Int32) from g 2 (by omega)), if_neg (show ¬ nu_i k = (3 : Int32) from g 3 (by omega)), if_neg (show ¬ nu_i k = (5 : Int32) from g 5 (by omega)), if_neg (show ¬ nu_i k = (3 : Int32) from g 3 (by omega))]
    refine pu_u6_44 ?_
    rw [if_pos rfl]
    refine pu_u6_54 ?_
    rw [e2 h, if_neg (show ¬ nu_i k = (6 : Int32) from g 6 (by omega))]
    refine last l D1 0 (by rw [if_neg (by omega)]) h (by omega) ?_
    unfold b6_
    rw [if_neg (by omega), if_neg (by omega), if_neg (by omega), List.append_assoc]; rfl
  · rw [if_pos (by decide)]
    refine pu_u6_24 ?_
    rw [e2 h, if_neg (by decide)]
    refine pu_u6_44 ?_
    rw [if_neg (by decide)]
    refine sp_4 (b := 30) h (by omega) fun D2 h2 => ?_
    refine pu_u6_54 ?_
    rw [e2 h2, if_neg (by decide)]
    refine last _ D2 1 (by rw [if_pos (by omega)]) h2 (by rw [L1]; omega) (by rw [List.append_assoc, List.append_assoc]; rfl)
  · rw [if_neg (by decide), if_pos (by decide)]
    refine pu_u6_24 ?_
    rw [e2 h, if_pos (by decide)]
    refine sp_4 (b := 40) h (by omega) fun D2 h2 => ?_
    refine pu_u6_44 ?_
    rw [if_neg (by decide)]
    refine sp_4 (b := 30) h2 (by rw [L1]; omega) fun D3 h3 => ?_
    refine pu_u6_54 ?_
    rw [e2 h3, if_neg (by decide)]
    refine last _ D3 1 (by rw [if_pos (by omega)]) h3 (by rw [L1, L1]; omega) (by rw [List.append_assoc, List.append_assoc, List.append_assoc]; rfl)
  · rw [if_neg (by decide), if_neg (by decide), if_pos (by decide)]
    refine pu_u6_24 ?_
    rw [e2 h, if_neg (by decide)]
    refine pu_u6_44 ?_
    rw [if_neg (by decide)]
    refine sp_4 (b := 30) h (by omega) fun D2 h2 => ?_
    refine pu_u6_54 ?_
    rw [e2 h2, if_neg (by decide)]
    refine last _ D2 1 (by rw [if_pos (by omega)]) h2 (by rw [L1]; omega) (by rw [List.append_assoc, List.append_assoc]; rfl)
  · rw [if_neg (by decide), if_neg (by decide), if_neg (by decide), if_neg (by decide)]
    refine pu_u6_44 ?_
    rw [if_pos rfl]
    refine pu_u6_54 ?_
    rw [e2 h, if_pos (by decide)]
    refine sp_4 (b := 70) h (by omega) fun D2 h2 => ?_
    refine last _ D2 0 (by rw [if_neg (by omega)]) h2 (by rw [L1]; omega) (by rw [List.append_assoc, List.append_assoc]; rfl)
theorem mp_238 {D0 D1 : pu_D} {l : List Nat} {k n a : Nat} {x : Int32} {P : Int32 → pu_D → Prop} (hn : n < 8) (hk : k < 7) (hk0 : D0.1 106 n = nu_i k) (ha0 : D0.1 107 n = nu_i a) (h : tx_ D0 l D1) (hl : l.length < 14) (hP : ∀ D', tx_ D0 (l ++ b6_ k) D' → P (v6_ k n a x) D') : pu_I X 238 [.ref 85, .int (nu_i n), .int x] D1 P := by
  have e2 : ∀ {l D}, tx_ D0 l D → D.1 106 n = nu_i k := fun h => (h.2.2.1 _ _ (by omega)).trans hk0
  have L1 : ∀ (l : List Nat) (b : Nat), (l ++ [b]).length = l.length + 1 := fun l b => by rw [List.length_append]; rfl
  have i1 : (px_in (nu_i n) 8 = true) := by rw [nu_in (by omega)]; exact hn
  have last : ∀ (l2 : List Nat) (D2 : pu_D) (y : Int32), (if k = 2 ∨ k = 3 ∨ k = 5 then y = 1 else y = 0) → tx_ D0 l2 D2 → l2.length < 17 → l2 ++ [11] ++ b5_ k = l ++ b6_ k → pu_h238_71 X (nu_i n) (nu_i k) (if k = 3 then x + 1 else x) y D2 P := by
    intro l2 D2 y hy h2 hl2 he
    refine pu_u238_71 ?_
    refine mp_236 (b := 11) h2 (by omega) fun D3 h3 => ?_
    refine mp_237 hn hk hk0 ha0 h3 (by rw [L1]; omega) fun D4 h4 => ?_
    rw [he] at h4
    have hp := hP D4 h4
    unfold v6_ at hp
    by_cases k3 : k = 3
    · subst k3
      rw [if_pos (by omega)] at hy
      rw [hy, if_neg (by decide), if_pos rfl]; exact hp
    · rw [if_neg k3]
      by_cases k25 : k = 2 ∨ k = 5
      · rw [if_pos (by omega)] at hy
        rw [hy, if_neg (by decide)]
        rw [if_pos k25] at hp; exact hp
      · rw [if_neg (by omega)] at hy
        rw [hy, if_pos rfl]
        rw [if_neg k25, if_neg k3] at hp
        by_cases k6 : k = 6
        · rw [if_pos (show nu_i k = (6 : Int32) by rw [k6]; rfl)]; rw [if_pos k6] at hp; exact hp
        · rw [if_neg (show ¬ nu_i k = (6 : Int32) by rw [nu_eqn (by omega) (by omega)]; exact k6)]; rw [if_neg k6] at hp; exact hp
  refine pu_e238 ?_
  rw [nu_ix (by omega), e2 h]
  refine ⟨i1, ?_⟩
  rcases (show (k = 0 ∨ k = 1 ∨ k = 4) ∨ k = 2 ∨ k = 3 ∨ k = 5 ∨ k = 6 by omega) with hk2 | rfl | rfl | rfl | rfl
  · have g : ∀ c : Nat, c = 2 ∨ c = 3 ∨ c = 5 ∨ c = 6 → ¬ nu_i k = nu_i c := fun c hc => by rw [nu_eq (by omega) (by omega)]; omega
    rw [if_neg (show ¬ nu_i k = (3 : Int32) from g 3 (by omega))]
    refine pu_u238_26 ?_
    rw [if_neg (show ¬ nu_i k = (2 : Int32) from g 2 (by omega)), if_neg (show ¬ nu_i k = (3 : Int32) from g 3 (by omega)), if_neg (show ¬ nu_i k = (5 : Int32) from g 5 (by omega))]
    refine pu_u238_59 ?_
    rw [if_neg (show ¬ nu_i k = (6 : Int32) from g 6 (by omega))]
    have := last l D1 0 (by rw [if_neg (by omega)]) h (by omega) (by
      unfold b6_
      rw [if_neg (by omega), if_neg (by omega), if_neg (by omega), List.append_assoc]; rfl)
    rw [if_neg (by omega)] at this; exact this
  · rw [if_neg (by decide)]
    refine pu_u238_26 ?_
    rw [if_pos (by decide)]
    refine pu_u238_41 ?_
    refine mp_236 (b := 30) h (by omega) fun D2 h2 => ?_
    refine pu_u238_59 ?_
    rw [if_neg (by decide)]
    exact last _ D2 1 (by rw [if_pos (by omega)]) h2 (by rw [L1]; omega) (by rw [List.append_assoc, List.append_assoc]; rfl)
  · rw [if_pos (by decide)]
    refine mp_236 (b := 40) h (by omega) fun D2 h2 => ?_
    refine pu_u238_26 ?_
    rw [if_neg (by decide), if_pos (by decide)]
    refine pu_u238_41 ?_
    refine mp_236 (b := 30) h2 (by rw [L1]; omega) fun D3 h3 => ?_
    refine pu_u238_59 ?_
    rw [if_neg (by decide)]
    exact last _ D3 1 (by rw [if_pos (by omega)]) h3 (by rw [L1, L1]; omega) (by rw [List.append_assoc, List.append_assoc, List.append_assoc]; rfl)
  · rw [if_neg (by decide)]
    refine pu_u238_26 ?_
    rw [if_neg (by decide), if_neg (by decide), if_pos (by decide)]
    refine pu_u238_41 ?_
    refine mp_236 (b := 30) h (by omega) fun D2 h2 => ?_
    refine pu_u238_59 ?_
    rw [if_neg (by decide)]
    exact last _ D2 1 (by rw [if_pos (by omega)]) h2 (by rw [L1]; omega) (by rw [List.append_assoc, List.append_assoc]; rfl)
  · rw [if_neg (by decide)]
    refine pu_u238_26 ?_
    rw [if_neg (by decide), if_neg (by decide), if_neg (by decide)]
    refine pu_u238_59 ?_
    rw [if_pos (by decide)]
    refine mp_236 (b := 70) h (by omega) fun D2 h2 => ?_
    exact last _ D2 0 (by rw [if_neg (by omega)]) h2 (by rw [L1]; omega) (by rw [List.append_assoc, List.append_assoc]; rfl)
end ST
