/-! IN TURN: the class goes through the yards, the reference takes the nearest of those that are left. -/
theorem fo_fl {α : Type} (f : Nat → α → α) (n : Nat) (a : α) : fo_ f n a = (List.range n).foldl (fun r i => f i r) a := by
  induction n with
  | zero => rfl
  | succ n ih => rw [List.range_succ, List.foldl_append, ← ih]; rfl
def tgs_ (S : Nat → Nat → Nat → Nat) (p : Nat) (r : Nat × Nat) : Nat × Nat := if bu_ S p = true ∧ S 1 p 0 % 2 = r.2 then (r.1 ||| 1 <<< p, 1 - r.2) else r
/-- the places of the yards below k, by yards, then by numbers -/
def ls_ (S : Nat → Nat → Nat → Nat) : Nat → List Nat
  | 0 => []
  | k + 1 => ls_ S k ++ (List.range (S 8 0 1)).filter (fun p => decide (S 1 p 0 / 2 = k))
section TU
variable {S : Nat → Nat → Nat → Nat}
theorem ls_mem {k p : Nat} : p ∈ ls_ S k ↔ p < S 8 0 1 ∧ S 1 p 0 / 2 < k := by
  induction k with
  | zero => simp [ls_]
  | succ k ih =>
    simp only [ls_, List.mem_append, ih, List.mem_filter, List.mem_range, decide_eq_true_eq]
    omega
theorem ls_pw {k : Nat} : (ls_ S k).Pairwise (fun p q => S 1 p 0 / 2 < S 1 q 0 / 2 ∨ (S 1 p 0 / 2 = S 1 q 0 / 2 ∧ p < q)) := by
  induction k with
  | zero => exact List.Pairwise.nil
  | succ k ih =>
    refine List.pairwise_append.mpr ⟨ih, ?_, fun p hp q hq => ?_⟩
    · have h := (List.pairwise_lt_range (n := S 8 0 1)).filter (fun p => decide (S 1 p 0 / 2 = k))
      refine List.Pairwise.imp_of_mem (fun {a b} ha hb hab => ?_) h
      simp only [List.mem_filter, decide_eq_true_eq] at ha hb
      exact Or.inr ⟨ha.2.trans hb.2.symm, hab⟩
    · have h1 := (ls_mem.mp hp).2
      simp only [List.mem_filter, decide_eq_true_eq] at hq
      exact Or.inl (by rw [hq.2]; exact h1)
theorem ct_split (f : Nat → Nat) (k n : Nat) : ((List.range n).filter (fun p => decide (f p = k))).length + ct_ (fun p => decide (f p < k)) n = ct_ (fun p => decide (f p < k + 1)) n := by
  induction n with
  | zero => rfl
  | succ n ih =>
    rw [List.range_succ, List.filter_append, List.length_append]
    unfold ct_
    by_cases h1 : f n = k
    · have : ((List.filter (fun p => decide (f p = k)) [n]).length) = 1 := by simp [h1]
      rw [this, if_neg (by simp; omega), if_pos (by simp; omega)]; omega
    · have : ((List.filter (fun p => decide (f p = k)) [n]).length) = 0 := by simp [h1]
      rw [this]
      by_cases h2 : f n < k
      · rw [if_pos (by simpa using h2), if_pos (by simp; omega)]; omega
      · rw [if_neg (by simpa using h2), if_neg (by simp; omega)]; omega
theorem ls_len {k : Nat} : (ls_ S k).length = ct_ (fun p => decide (S 1 p 0 / 2 < k)) (S 8 0 1) := by
  induction k with
  | zero =>
    have : ∀ n, ct_ (fun p => decide (S 1 p 0 / 2 < 0)) n = 0 := by
      intro n
      induction n with
      | zero => rfl
      | succ n ih => unfold ct_; rw [if_neg (by simp), ih]
    exact (this _).symm
  | succ k ih =>
    show (ls_ S k ++ _).length = _
    rw [List.length_append, ih, ← ct_split (fun p => S 1 p 0 / 2) k (S 8 0 1)]
    omega
theorem ct_all {b : Nat → Bool} {n : Nat} (h : ∀ i, i < n → b i = true) : ct_ b n = n := by
  induction n with
  | zero => rfl
  | succ n ih => unfold ct_; rw [if_pos (h n (by omega)), ih fun i hi => h i (by omega)]
theorem ls_n (hW : wf_ S) : (ls_ S 60).length = S 8 0 1 := by
  rw [ls_len]
  exact ct_all fun p hp => by have := wf_p hW hp; simp; omega
theorem tu_ls {a : Nat} : tu_ S (bb_ S) a = (ls_ S 60).foldl (fun r p => tgs_ S p r) (0, a) := by
  have key : ∀ k, fo_ (fun y r => fo_ (tf_ S (bb_ S) y) (S 8 0 1) r) k (0, a) = (ls_ S k).foldl (fun r p => tgs_ S p r) (0, a) := by
    intro k
    induction k with
    | zero => rfl
    | succ k ih =>
      show fo_ (tf_ S (bb_ S) k) (S 8 0 1) (fo_ _ k (0, a)) = (ls_ S k ++ _).foldl _ _
      rw [ih, List.foldl_append]
      generalize (ls_ S k).foldl (fun r p => tgs_ S p r) (0, a) = r
      rw [List.foldl_filter, ← fo_fl (fun p r => if decide (S 1 p 0 / 2 = k) = true then tgs_ S p r else r)]
      refine fo_congr fun p hp r => ?_
      unfold tf_ tgs_
      have hb : (bb_ S).testBit p = bu_ S p := by unfold bb_; rw [bs_bit]; simp [hp]
      rw [hb]
      by_cases h1 : S 1 p 0 / 2 = k
      · simp [h1]
      · simp [h1]
  exact key 60
theorem am_succ {t n : Nat} : am_ S t (n + 1) = (if t.testBit n = true then am_ S t n else if am_ S t n = 0 then n + 1 else if S 1 n 0 / 2 < S 1 (am_ S t n - 1) 0 / 2 then n + 1 else am_ S t n) := rfl
theorem am_ok {t n : Nat} : am_ S t n ≤ n ∧ (am_ S t n = 0 → ∀ q, q < n → t.testBit q = true) ∧ (¬ am_ S t n = 0 → t.testBit (am_ S t n - 1) = false ∧ ∀ q, q < n → t.testBit q = false → S 1 (am_ S t n - 1) 0 / 2 < S 1 q 0 / 2 ∨ (S 1 (am_ S t n - 1) 0 / 2 = S 1 q 0 / 2 ∧ am_ S t n - 1 ≤ q)) := by
  induction n with
  | zero => exact ⟨Nat.le_refl _, fun _ q hq => absurd hq (Nat.not_lt_zero _), fun h => absurd rfl h⟩
  | succ n ih =>
    obtain ⟨i1, i2, i3⟩ := ih
    rw [am_succ]
    by_cases h1 : t.testBit n = true
    · rw [if_pos h1]
      refine ⟨by omega, fun h q hq => ?_, fun h => ⟨(i3 h).1, fun q hq hb => ?_⟩⟩
      · by_cases hqn : q = n
        · rw [hqn]; exact h1
        · exact i2 h q (by omega)
      · by_cases hqn : q = n
        · rw [hqn, h1] at hb; cases hb
        · exact (i3 h).2 q (by omega) hb
    · rw [if_neg h1]
      have h1f : t.testBit n = false := by simpa using h1
      by_cases h2 : am_ S t n = 0
      · rw [if_pos h2]
        refine ⟨Nat.le_refl _, fun h => absurd h (Nat.succ_ne_zero _), fun _ => ⟨h1f, fun q hq hb => ?_⟩⟩
        by_cases hqn : q = n
        · subst hqn; exact Or.inr ⟨rfl, Nat.le_refl _⟩
        · have := i2 h2 q (by omega); rw [this] at hb; cases hb
      · rw [if_neg h2]
        obtain ⟨j1, j2⟩ := i3 h2
        by_cases h3 : S 1 n 0 / 2 < S 1 (am_ S t n - 1) 0 / 2
        · rw [if_pos h3]
          refine ⟨Nat.le_refl _, fun h => absurd h (Nat.succ_ne_zero _), fun _ => ⟨h1f, fun q hq hb => ?_⟩⟩
          show S 1 n 0 / 2 < S 1 q 0 / 2 ∨ (S 1 n 0 / 2 = S 1 q 0 / 2 ∧ n ≤ q)
          by_cases hqn : q = n
          · subst hqn; exact Or.inr ⟨rfl, Nat.le_refl _⟩
          · have := j2 q (by omega) hb; omega
        · rw [if_neg h3]
          refine ⟨by omega, fun h => absurd h h2, fun _ => ⟨j1, fun q hq hb => ?_⟩⟩
          by_cases hqn : q = n
          · subst hqn; omega
          · exact j2 q (by omega) hb
theorem tm_i (hW : wf_ S) {a : Nat} (ha : a < 2) : ∀ i, i ≤ S 8 0 1 → (tm_ S a i).1 = (((ls_ S 60).take i).foldl (fun r p => tgs_ S p r) (0, a)).1 ∧ (tm_ S a i).2.1 = 1 - (((ls_ S 60).take i).foldl (fun r p => tgs_ S p r) (0, a)).2 ∧ (((ls_ S 60).take i).foldl (fun r p => tgs_ S p r) (0, a)).2 < 2 ∧ ((tm_ S a i).1 < 512 ∧ (tm_ S a i).2.2 < 512) ∧ ∀ p, (tm_ S a i).2.2.testBit p = true ↔ p ∈ (ls_ S 60).take i := by
  intro i
  have hn := wf_n hW
  have hlen := ls_n hW
  induction i with
  | zero => intro _; exact ⟨rfl, rfl, ha, ⟨by show 0 < 512; omega, by show 0 < 512; omega⟩, fun p => by simp [tm_, fo_]⟩
  | succ i ih =>
    intro hi
    obtain ⟨e1, e2, e3, e4, e5⟩ := ih (by omega)
    have hil : i < (ls_ S 60).length := by omega
    have hx := List.getElem_mem hil
    have hxm := ls_mem.mp hx
    have htake : (ls_ S 60).take (i + 1) = (ls_ S 60).take i ++ [(ls_ S 60)[i]] := (List.take_append_getElem hil).symm
    -- what is chosen
    have hpw := ls_pw (S := S) (k := 60)
    have hnot : ¬ (ls_ S 60)[i] ∈ (ls_ S 60).take i := by
      intro hm
      obtain ⟨j, hj, hje⟩ := List.mem_take_iff_getElem.mp hm
      have hji : j < i := by omega
      have := List.pairwise_iff_getElem.mp hpw j i (by omega) hil hji
      rw [hje] at this
      omega
    have hsel : am_ S (tm_ S a i).2.2 (S 8 0 1) = (ls_ S 60)[i] + 1 := by
      obtain ⟨m1, m2, m3⟩ := am_ok (S := S) (t := (tm_ S a i).2.2) (n := S 8 0 1)
      have hx0 : (tm_ S a i).2.2.testBit (ls_ S 60)[i] = false := by
        rw [← Bool.not_eq_true]; exact fun z => hnot ((e5 _).mp z)
      have h0 : ¬ am_ S (tm_ S a i).2.2 (S 8 0 1) = 0 := by
        intro z
        have := m2 z _ hxm.1
        rw [hx0] at this; cases this
      obtain ⟨m4, m5⟩ := m3 h0
      have hmin := m5 _ hxm.1 hx0
      -- the chosen one is in the list, behind the first i
      have hmem : am_ S (tm_ S a i).2.2 (S 8 0 1) - 1 ∈ ls_ S 60 := ls_mem.mpr ⟨by omega, by have := wf_p hW (i := am_ S (tm_ S a i).2.2 (S 8 0 1) - 1) (by omega); omega⟩
      obtain ⟨j, hj, hje⟩ := List.getElem_of_mem hmem
      have hji : ¬ j < i := by
        intro z
        have : am_ S (tm_ S a i).2.2 (S 8 0 1) - 1 ∈ (ls_ S 60).take i := List.mem_take_iff_getElem.mpr ⟨j, by omega, hje⟩
        have := (e5 _).mpr this
        rw [m4] at this; cases this
      by_cases hji2 : j = i
      · subst hji2; omega
      · have := List.pairwise_iff_getElem.mp hpw i j hil hj (by omega)
        rw [hje] at this
        omega
    have hst : tm_ S a (i + 1) = tg_ S (tm_ S a i) := rfl
    rw [htake, List.foldl_append, hst]
    unfold tg_
    rw [hsel, show (ls_ S 60)[i] + 1 - 1 = (ls_ S 60)[i] by omega]
    generalize hX : (ls_ S 60)[i] = x at hxm ⊢
    generalize hR : ((ls_ S 60).take i).foldl (fun r p => tgs_ S p r) (0, a) = r at e1 e2 e3 ⊢
    have hb5 : ∀ p, ((tm_ S a i).2.2 ||| 1 <<< x).testBit p = true ↔ p ∈ (ls_ S 60).take i ++ [x] := by
      intro p
      rw [Nat.testBit_or, Nat.one_shiftLeft, Nat.testBit_two_pow, Bool.or_eq_true, e5 p, List.mem_append, List.mem_singleton, decide_eq_true_eq]
      exact or_congr Iff.rfl ⟨Eq.symm, Eq.symm⟩
    have hlt : ∀ s, s < 512 → s ||| 1 <<< x < 512 := fun s hs => Nat.or_lt_two_pow (n := 9) hs (by rw [Nat.one_shiftLeft]; exact Nat.pow_lt_pow_right (by decide) (by omega))
    show _ = (tgs_ S x r).1 ∧ _ = 1 - (tgs_ S x r).2 ∧ (tgs_ S x r).2 < 2 ∧ _ ∧ _
    unfold tgs_
    by_cases hb : bu_ S x = true
    · by_cases hs : S 1 x 0 % 2 = r.2
      · rw [if_pos ⟨hb, by rw [e2]; omega⟩, if_pos ⟨hb, hs⟩]
        refine ⟨by show _ ||| _ = _ ||| _; rw [e1], by show S 1 x 0 % 2 = 1 - (1 - r.2); omega, by show 1 - r.2 < 2; omega, ⟨hlt _ e4.1, hlt _ e4.2⟩, hb5⟩
      · rw [if_neg (fun z => by rw [e2] at z; omega), if_neg (fun z => hs z.2)]
        exact ⟨e1, e2, e3, ⟨e4.1, hlt _ e4.2⟩, hb5⟩
    · rw [if_neg (fun z => hb z.1), if_neg (fun z => hb z.1)]
      exact ⟨e1, e2, e3, ⟨e4.1, hlt _ e4.2⟩, hb5⟩
theorem tm_tu (hW : wf_ S) {a : Nat} (ha : a < 2) : (tm_ S a (S 8 0 1)).1 = (tu_ S (bb_ S) a).1 := by
  have h := (tm_i hW ha (S 8 0 1) (Nat.le_refl _)).1
  rw [h, tu_ls, ← ls_n hW, List.take_length]
theorem bm2_bn (hW : wf_ S) {k a w : Nat} (ha : (k = 1 ∨ k = 3) → a < 2) : bm2_ S k a w = bn_ S k a w := by
  unfold bm2_ bn_
  by_cases h3 : k = 3
  · rw [if_pos h3, if_neg (by omega), if_pos h3, tm_tu hW (ha (Or.inr h3))]
  · rw [if_neg h3]
    by_cases h1 : k = 1
    · rw [if_pos h1]; unfold bb_; rw [bs_and]
      exact bs_congr fun p hp => by unfold bk_ os_; rw [if_pos h1, bs_bit]; simp [hp]
    · rw [if_neg h1, if_neg h3]
      by_cases h5 : k = 5
      · rw [if_pos h5]; unfold bb_; rw [bs_and]
        exact bs_congr fun p hp => by unfold bk_; rw [if_neg h1, if_pos h5]
      · rw [if_neg h5]
        by_cases h6 : k = 6
        · rw [if_pos h6]; unfold bb_; rw [bs_and]
          exact bs_congr fun p hp => by unfold bk_; rw [if_neg h1, if_neg h5, if_pos h6]
        · rw [if_neg h6]; unfold bb_
          exact bs_congr fun p hp => by unfold bk_; rw [if_neg h1, if_neg h5, if_neg h6]; simp
end TU
