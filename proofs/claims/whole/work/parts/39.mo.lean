/-! THE REFERENCE, further: which lamps burn, light, rules, sets. -/
def lm_ (S : Nat → Nat → Nat → Nat) (f : Nat → Nat) (D : pu_D) : Prop := ∀ j, j < S 7 0 3 * 2 → D.1 113 j = nu_i (f j) ∧ f j ≤ 1000000
def mx_ (S : Nat → Nat → Nat → Nat) (f : Nat → Nat) (n : Nat) : Nat := fo_ (fun j a => if ip_ S j = true then a else max a (f j)) n 0
def sn_ (S : Nat → Nat → Nat → Nat) (s m : Nat) (D : pu_D) : Prop := ∀ q, q < S 7 0 3 * 2 → (∀ p, p < S 8 0 1 → D.1 114 (120 * p + q) = nu_i (gv_ S p s q m)) ∧ D.1 115 q = nu_i (sh_ S q 0)
def zj_ (q j : Nat) : Prop := q = 113 ∨ (q = 85 ∧ j = 45)
theorem zj_m : zm_ zj_ := fun q j h => by unfold zj_ at h; omega
section MO
variable {X : px_X} {S : Nat → Nat → Nat → Nat} {D : pu_D}
theorem mp_243 {k a w set p x7 : Nat} {v5 v6 : Int32} {c : Prop} [Decidable c] {P : Int32 → pu_D → Prop} (hs : set < 512) (hp : p < 9) (h : pu_h202_14 X (nu_i k) (nu_i a) (nu_i w) (nu_i (if c then set ||| 1 <<< p else set)) v5 v6 (nu_i (x7 + 1)) D P) : pu_h202_243 X (nu_i k) (nu_i a) (nu_i w) (nu_i set) v5 v6 (nu_i x7) (nu_i p) (nu_b c) D P := by
  refine pu_u202_243 ?_
  simp (disch := first | assumption | omega) only [nu_b0, nu_orS, nu_addn]
  by_cases hc : c
  · rw [if_neg (by simpa using hc)]; rw [if_pos hc] at h; exact h
  · rw [if_pos hc]; rw [if_neg hc] at h; exact h
theorem mp_103 (hM : re_M S D) (hW : wf_ S) {k a w set p x7 : Nat} {v5 v6 : Int32} {P : Int32 → pu_D → Prop} (hk : k < 7) (hk3 : ¬ k = 3) (ha : a < 512) (hw : w < 512) (hs : set < 512) (hp : p < S 8 0 1) (h : pu_h202_14 X (nu_i k) (nu_i a) (nu_i w) (nu_i (if bk_ S k a w p = true then set ||| 1 <<< p else set)) v5 v6 (nu_i (x7 + 1)) D P) : pu_h202_103 X (nu_i k) (nu_i a) (nu_i w) (nu_i set) v5 v6 (nu_i x7) (nu_i p) D P := by
  have hn := wf_n hW
  have hv := wf_p hW hp
  have h201 : ∀ (c : Prop) [Decidable c], pu_h202_14 X (nu_i k) (nu_i a) (nu_i w) (nu_i (if c then set ||| 1 <<< p else set)) v5 v6 (nu_i (x7 + 1)) D P → pu_h202_201 X (nu_i k) (nu_i a) (nu_i w) (nu_i set) v5 v6 (nu_i x7) (nu_i p) (nu_b c) D P := by
    intro c hc hh
    refine pu_u202_201 ?_
    simp (disch := omega) only [nu_eqn]
    rw [if_neg hk3]
    exact mp_243 hs (by omega) hh
  have h178 : ∀ (c : Prop) [Decidable c], pu_h202_14 X (nu_i k) (nu_i a) (nu_i w) (nu_i (if (if k = 6 then a.testBit p = true else c) then set ||| 1 <<< p else set)) v5 v6 (nu_i (x7 + 1)) D P → pu_h202_178 X (nu_i k) (nu_i a) (nu_i w) (nu_i set) v5 v6 (nu_i x7) (nu_i p) (nu_b c) D P := by
    intro c hc hh
    refine pu_u202_178 ?_
    simp (disch := omega) only [nu_eqn, nu_inS, nu_b1]
    by_cases h6 : k = 6
    · simp only [h6, if_true] at hh ⊢
      by_cases hb : a.testBit p = true
      · rw [if_pos hb]; rw [if_pos hb] at hh
        have := h201 True (by rw [if_pos trivial, h6]; exact hh)
        rw [h6] at this; exact this
      · rw [if_neg hb]; rw [if_neg hb] at hh
        have := h201 False (by rw [if_neg (fun z => z), h6]; exact hh)
        rw [h6] at this; exact this
    · simp only [h6, if_false] at hh ⊢
      exact h201 c hh
  have h156 : ∀ (c : Prop) [Decidable c], pu_h202_14 X (nu_i k) (nu_i a) (nu_i w) (nu_i (if (if k = 5 then w.testBit p = true else if k = 6 then a.testBit p = true else c) then set ||| 1 <<< p else set)) v5 v6 (nu_i (x7 + 1)) D P → pu_h202_156 X (nu_i k) (nu_i a) (nu_i w) (nu_i set) v5 v6 (nu_i x7) (nu_i p) (nu_b c) D P := by
    intro c hc hh
    refine pu_u202_156 ?_
    simp (disch := omega) only [nu_eqn, nu_inS, nu_b1]
    by_cases h5 : k = 5
    · simp only [h5, if_true] at hh ⊢
      by_cases hb : w.testBit p = true
      · rw [if_pos hb]; rw [if_pos hb] at hh
        have := h178 True (by simp only [show ¬ k = 6 by omega, if_false, if_true]; rw [h5]; exact hh)
        rw [h5] at this; exact this
      · rw [if_neg hb]; rw [if_neg hb] at hh
        have := h178 False (by simp only [show ¬ k = 6 by omega, if_false]; rw [h5]; exact hh)
        rw [h5] at this; exact this
    · simp only [h5, if_false] at hh ⊢
      exact h178 c hh
  have hskip : bu_ S p = false → pu_h202_14 X (nu_i k) (nu_i a) (nu_i w) (nu_i set) v5 v6 (nu_i (x7 + 1)) D P := by
    intro hb
    unfold bk_ at h
    rw [hb] at h
    simpa using h
  refine pu_u202_103 ?_
  simp (disch := omega) only [nu_in, nu_ix, mc_93 hM, mc_94 hM, mc_91 hM, nu_lm, nu_eqn, nu_divn, nu_md2, nu_eq, nu_addn]
  refine ⟨by omega, ?_⟩
  by_cases hl : S 1 p 2 = 0
  · rw [if_pos hl]; exact hskip (by simp [bu_, hl])
  · rw [if_neg hl]
    refine ⟨by omega, ?_⟩
    by_cases ho : S 1 p 3 = 1
    · rw [if_pos ho]; exact hskip (by simp [bu_, ho])
    · rw [if_neg ho]
      have hbu : bu_ S p = true := by simp [bu_, hl, ho]
      unfold bk_ at h
      rw [hbu, Bool.true_and] at h
      by_cases h1 : k = 1
      · rw [if_pos h1]
        rw [if_pos h1] at h
        refine ⟨by omega, ?_⟩
        by_cases hsd : S 1 p 0 % 2 = a
        · rw [if_pos hsd]
          have := h156 True (by simp only [show ¬ k = 5 by omega, show ¬ k = 6 by omega, if_false, if_true]; simpa [hsd] using h)
          exact this
        · rw [if_neg hsd]
          have := h156 False (by simp only [show ¬ k = 5 by omega, show ¬ k = 6 by omega, if_false]; simpa [hsd] using h)
          exact this
      · rw [if_neg h1]
        rw [if_neg h1] at h
        have := h156 True (by
          by_cases h5 : k = 5
          · simp only [h5, if_true] at h ⊢; exact h
          · by_cases h6 : k = 6
            · simp only [h6, if_true] at h ⊢; exact h
            · simp only [h5, h6, if_false, if_true] at h ⊢; exact h)
        exact this
theorem bk_512 {k a w i : Nat} (hi : i ≤ 9) : bs_ (bk_ S k a w) i < 512 := bs_512 _ hi
theorem mp_202 (hM : re_M S D) (hW : wf_ S) {k a w : Nat} {P : Int32 → pu_D → Prop} (hk : k < 7) (ha : a < 512) (hw : w < 512) (ha2 : (k = 1 ∨ k = 3) → a < 2) : pu_I X 202 [.ref 85, .int (nu_i k), .int (nu_i a), .int (nu_i w)] D P = P (nu_i (bn_ S k a w)) D := by
  have hn := wf_n hW
  obtain ⟨-, c5, -⟩ := rm_n hM
  rw [← bm2_bn hW ha2]
  refine pu_I_of (pu_e202 ?_) P
  unfold bm2_
  by_cases h3 : k = 3
  · subst h3
    rw [if_pos rfl, show (1 : Int32) - nu_i a = nu_i (1 - a) from nu_sub (a := 1) (by have := ha2 (Or.inr rfl); omega)]
    refine lo_ix (fun (r : Nat × Nat × Nat) x => pu_h202_14 X (nu_i 3) (nu_i a) (nu_i w) (nu_i r.1) (nu_i r.2.1) (nu_i r.2.2) x D _) (S 8 0 1) (tm_ S a) (fun i hi h => ?_) ?_
    · have hti := tm_i hW (ha2 (Or.inr rfl)) i (Nat.le_of_lt hi)
      obtain ⟨e1, e2, e3, ⟨e4, e4'⟩, e5⟩ := hti
      have hlast : (tm_ S a i).2.1 < 2 := by omega
      have hsuc : tm_ S a (i + 1) = tg_ S (tm_ S a i) := rfl
      rw [hsuc] at h
      generalize tm_ S a i = r at h e4 e4' e5 hlast ⊢
      -- some place is left
      have ham := am_ok (S := S) (t := r.2.2) (n := S 8 0 1)
      have h0 : ¬ am_ S r.2.2 (S 8 0 1) = 0 := by
        intro z
        have hall := ham.2.1 z
        have hil : i < (ls_ S 60).length := by rw [ls_n hW]; exact hi
        have hx := ls_mem.mp (List.getElem_mem hil)
        have hm := (e5 _).mp (hall _ hx.1)
        obtain ⟨j, hj, hje⟩ := List.mem_take_iff_getElem.mp hm
        have hji : j < i := by omega
        have := List.pairwise_iff_getElem.mp (ls_pw (S := S) (k := 60)) j i (by omega) hil hji
        rw [hje] at this; omega
      refine pu_u202_14 ?_
      simp (disch := omega) only [c5, nu_lt, hi, if_true, nu_eqn]
      refine lo_ix (fun b x => pu_h202_38 X (nu_i 3) (nu_i a) (nu_i w) (nu_i r.1) (nu_i r.2.1) (nu_i r.2.2) (nu_i i) (nu_l b) x D _) (S 8 0 1) (am_ S r.2.2) (fun q hq hh => ?_) ?_
      · have hvq := wf_p hW hq
        have hle := (am_ok (S := S) (t := r.2.2) (n := q)).1
        rw [am_succ] at hh
        refine pu_u202_38 ?_
        simp (disch := first | assumption | omega) only [c5, nu_lt, hq, if_true, nu_inS, nu_b0, nu_lm]
        by_cases hb : r.2.2.testBit q = true
        · rw [if_neg (by simpa using hb)]; rw [if_pos hb] at hh
          refine pu_u202_88 ?_; rw [nu_addn]; exact hh
        · rw [if_pos hb]; rw [if_neg hb] at hh
          by_cases hz : am_ S r.2.2 q = 0
          · rw [if_pos hz]; rw [if_pos hz] at hh
            refine pu_u202_84 (pu_u202_88 ?_); rw [nu_addn]; exact hh
          · rw [if_neg hz]; rw [if_neg hz] at hh
            have hvb := wf_p hW (i := am_ S r.2.2 q - 1) (by omega)
            rw [nu_lp hz]
            simp (disch := omega) only [nu_in, nu_ix, mc_91 hM, nu_divn, nu_lt]
            refine ⟨by omega, by omega, ?_⟩
            by_cases hc : S 1 q 0 / 2 < S 1 (am_ S r.2.2 q - 1) 0 / 2
            · rw [if_pos hc]; rw [if_pos hc] at hh
              refine pu_u202_84 (pu_u202_88 ?_); rw [nu_addn]; exact hh
            · rw [if_neg hc]; rw [if_neg hc, nu_lp hz] at hh
              refine pu_u202_88 ?_; rw [nu_addn]; exact hh
      · have hle := ham.1
        refine pu_u202_38 ?_
        simp (disch := omega) only [c5, nu_lt, Nat.lt_irrefl, if_false]
        unfold tg_ at h
        rw [nu_lp h0]
        generalize hsel : am_ S r.2.2 (S 8 0 1) - 1 = p at h ⊢
        have hp : p < S 8 0 1 := by omega
        have hvp := wf_p hW hp
        rw [nu_orS e4' (by omega)]
        refine pu_u202_103 ?_
        simp (disch := omega) only [nu_in, nu_ix, mc_93 hM, mc_94 hM, mc_91 hM, nu_lm, nu_eqn, nu_addn]
        refine ⟨by omega, ?_⟩
        by_cases hl : S 1 p 2 = 0
        · rw [if_pos hl]
          rw [if_neg (fun z => by have := z.1; simp [bu_, hl] at this)] at h
          exact h
        · rw [if_neg hl]
          refine ⟨by omega, ?_⟩
          by_cases ho : S 1 p 3 = 1
          · rw [if_pos ho]
            rw [if_neg (fun z => by have := z.1; simp [bu_, ho] at this)] at h
            exact h
          · rw [if_neg ho, if_neg (by omega)]
            have hbu : bu_ S p = true := by simp [bu_, hl, ho]
            refine pu_u202_156 ?_
            simp (disch := omega) only [nu_eqn]
            rw [if_neg (by omega)]
            refine pu_u202_178 ?_
            simp (disch := omega) only [nu_eqn]
            rw [if_neg (by omega)]
            refine pu_u202_201 ?_
            simp (disch := omega) only [nu_eqn, nu_in, nu_ix, mc_91 hM, nu_divn, nu_md2, nu_eq, if_true]
            refine ⟨by omega, ?_⟩
            by_cases hs : S 1 p 0 % 2 = r.2.1
            · rw [if_pos hs]
              rw [if_neg (fun z => z.2 hs)] at h
              exact mp_243 (c := False) e4 (by omega) (by rw [if_neg (fun z => z)]; exact h)
            · rw [if_neg hs]
              rw [if_pos ⟨hbu, hs⟩] at h
              refine ⟨by omega, ?_⟩
              exact mp_243 (c := True) e4 (by omega) (by rw [if_pos trivial]; exact h)
    · refine pu_u202_14 ?_
      simp (disch := omega) only [c5, nu_lt, Nat.lt_irrefl, if_false]
      exact ⟨by trivial, by trivial⟩
  · rw [if_neg h3]
    generalize (1 : Int32) - nu_i a = v5
    refine lo_ix (fun b x => pu_h202_14 X (nu_i k) (nu_i a) (nu_i w) (nu_i b) v5 0 x D _) (S 8 0 1) (bs_ (bk_ S k a w)) (fun i hi h => ?_) ?_
    · refine pu_u202_14 ?_
      simp (disch := omega) only [c5, nu_lt, hi, if_true, nu_eqn]
      rw [if_neg h3]
      exact mp_103 hM hW hk h3 ha hw (bk_512 (by omega)) hi h
    · refine pu_u202_14 ?_
      simp (disch := omega) only [c5, nu_lt, Nat.lt_irrefl, if_false]
      exact ⟨by trivial, by trivial⟩
theorem mp_206 (hM : re_M S D) (hW : wf_ S) {k a w q m hh : Nat} {P : Int32 → pu_D → Prop} (hk : k < 7) (ha : a < 512) (hw : w < 512) (ha2 : (k = 1 ∨ k = 3) → a < 2) (hq : q < 120) (hm : m < 12) (hh2 : hh < 12) : pu_I X 206 [.ref 85, .int (nu_i k), .int (nu_i a), .int (nu_i w), .int (nu_i q), .int (nu_i m), .int (nu_i hh)] D P = P (nu_i (li_ S (bn_ S k a w) (hb_ k a hh) q m + sh_ S q hh)) D := by
  have hn := wf_n hW
  obtain ⟨-, c5, -⟩ := rm_n hM
  have hsl := sl_bn hW (w := w) ha2
  have hs1 := hsl.1
  refine pu_I_of (pu_e206 ?_) P
  rw [mp_202 hM hW hk ha hw ha2, mp_203 hM hW hq hh2, Nat.add_comm]
  refine lo_ix (fun b x => pu_h206_22 X (nu_i k) (nu_i a) (nu_i q) (nu_i m) (nu_i hh) (nu_i (bn_ S k a w)) (nu_i b) x D _) (S 8 0 1) (fun i => sh_ S q hh + su_ (fun p => if (bn_ S k a w).testBit p = true then ol_ S (hb_ k a hh) p q m else 0) i) (fun i hi h => ?_) ?_
  · refine pu_u206_22 ?_
    simp (disch := first | assumption | omega) only [c5, nu_lt, hi, if_true, nu_inS, nu_b1, nu_eqn, nu_addn]
    by_cases hb : (bn_ S k a w).testBit i = true
    · rw [if_pos hb]
      simp only [su_, hb, if_true] at h
      have e := fun (b : Bool) (hb2 : hb_ k a hh = b) => mp_205 (X := X) hM hW (h := b) (P := fun y11 D12 => pu_h206_22 X (nu_i k) (nu_i a) (nu_i q) (nu_i m) (nu_i hh) (nu_i (bn_ S k a w)) (nu_i (sh_ S q hh + su_ (fun p => if (bn_ S k a w).testBit p = true then ol_ S (hb_ k a hh) p q m else 0) i) + y11) (nu_i (i + 1)) D12 (fun y D' => y = nu_i (sh_ S q hh + li_ S (bn_ S k a w) (hb_ k a hh) q m) ∧ D' = D)) hi (hsl.2 i hi hb) hq hm
      by_cases h4 : k = 4
      · rw [if_pos h4]
        by_cases h5 : hh < a
        · rw [if_pos h5]
          have hf : hb_ k a hh = false := by simp [hb_, h5]
          refine (e false hf).mpr ?_
          rw [nu_add, Nat.add_assoc]; rw [hf] at h ⊢; exact h
        · rw [if_neg h5]
          have hf : hb_ k a hh = true := by simp [hb_, h4, h5]
          refine (e true hf).mpr ?_
          rw [nu_add, Nat.add_assoc]; rw [hf] at h ⊢; exact h
      · rw [if_neg h4]
        have hf : hb_ k a hh = false := by simp [hb_, h4]
        refine (e false hf).mpr ?_
        rw [nu_add, Nat.add_assoc]; rw [hf] at h ⊢; exact h
    · rw [if_neg hb]
      simp only [su_, hb, if_false, Nat.add_zero, Bool.false_eq_true] at h
      exact h
  · refine pu_u206_22 ?_
    simp (disch := omega) only [c5, nu_lt, Nat.lt_irrefl, if_false]
    exact ⟨by trivial, by trivial⟩
theorem mp_212 (hM : re_M S D) (hW : wf_ S) {k a w m hh : Nat} {P : pu_D → Prop} (hk : k < 7) (ha : a < 512) (hw : w < 512) (ha2 : (k = 1 ∨ k = 3) → a < 2) (hm : m < 12) (hh2 : hh < 12) (hP : ∀ D', ag_ zj_ D D' → lm_ S (fun j => li_ S (bn_ S k a w) (hb_ k a hh) j m + sh_ S j hh) D' → P D') : pu_V X 212 [.ref 85, .int (nu_i k), .int (nu_i a), .int (nu_i w), .int (nu_i m), .int (nu_i hh)] D P := by
  have hMM := wf_m hW
  have hsl := sl_bn hW (w := w) ha2
  refine pu_e212 ?_
  refine lo_S (fun i D' => ag_ zj_ D D' ∧ ∀ j, j < i → D'.1 113 j = nu_i (li_ S (bn_ S k a w) (hb_ k a hh) j m + sh_ S j hh)) (fun D' x => pu_h212_3 X (nu_i k) (nu_i a) (nu_i w) (nu_i m) (nu_i hh) x D' P) (S 7 0 3 * 2) D ⟨ag_rf D, fun j hj => absurd hj (Nat.not_lt_zero _)⟩ (fun i D' hi hI hk2 => ?_) (fun D' hI => ?_)
  · obtain ⟨h1, h3⟩ := hI
    have hM' := rm_ag hM h1 zj_m
    obtain ⟨-, -, -, m3⟩ := rm_m hM'
    refine pu_u212_3 ?_
    simp (disch := omega) only [m3, nu_nmul, Nat.mul_comm 2, nu_lt, hi, if_true, mp_206 hM' hW hk ha hw ha2 (q := i) (by omega) hm hh2, nu_in, nu_ix, nu_addn]
    refine ⟨by omega, hk2 _ ⟨ag_wi h1 (Or.inl rfl), fun j hj => ?_⟩⟩
    by_cases hji : j = i
    · subst hji; exact wi_eq
    · rw [wi_j hji]; exact h3 j (by omega)
  · obtain ⟨h1, h3⟩ := hI
    have hM' := rm_ag hM h1 zj_m
    obtain ⟨-, -, -, m3⟩ := rm_m hM'
    refine pu_u212_3 ?_
    simp (disch := omega) only [m3, nu_nmul, Nat.mul_comm 2, nu_lt, Nat.lt_irrefl, if_false]
    refine hP D' h1 fun j hj => ⟨h3 j hj, ?_⟩
    have b1 := li_le hW (set := bn_ S k a w) (h := hb_ k a hh) (q := j) (m := m) hsl.2
    have b2 := sh_le hW (q := j) (h := hh)
    show li_ S (bn_ S k a w) (hb_ k a hh) j m + sh_ S j hh ≤ 1000000
    omega
theorem mx_succ {f : Nat → Nat} {n : Nat} : mx_ S f (n + 1) = (if ip_ S n = true then mx_ S f n else max (mx_ S f n) (f n)) := rfl
theorem mx_lt {f : Nat → Nat} {n c : Nat} : c < mx_ S f n ↔ ∃ j, j < n ∧ ip_ S j = false ∧ c < f j := by
  induction n with
  | zero => exact ⟨fun h => absurd h (Nat.not_lt_zero _), fun ⟨j, hj, _⟩ => absurd hj (Nat.not_lt_zero _)⟩
  | succ n ih =>
    rw [mx_succ]
    by_cases h : ip_ S n = true
    · rw [if_pos h, ih]
      constructor
      · rintro ⟨j, a, b⟩; exact ⟨j, by omega, b⟩
      · rintro ⟨j, a, b, d⟩
        have : j ≠ n := fun e => by rw [e, h] at b; cases b
        exact ⟨j, by omega, b, d⟩
    · rw [if_neg h, show c < max (mx_ S f n) (f n) ↔ c < mx_ S f n ∨ c < f n by omega, ih]
      have hf : ip_ S n = false := by simpa using h
      constructor
      · rintro (⟨j, a, b⟩ | h2)
        · exact ⟨j, by omega, b⟩
        · exact ⟨n, by omega, hf, h2⟩
      · rintro ⟨j, a, b, d⟩
        by_cases e : j = n
        · subst e; exact Or.inr d
        · exact Or.inl ⟨j, by omega, b, d⟩
theorem k3_lt {f : Nat → Nat} : (S 7 0 1 * (dd_ S f).2 < mx_ S f (S 7 0 3 * 2)) ↔ k3_ S f < S 7 0 3 * 2 := by
  rw [mx_lt]
  have ha := fi_at (fun j => decide (S 7 0 1 * (dd_ S f).2 < f j) && !ip_ S j) (S 7 0 3 * 2)
  have hle := fi_le (fun j => decide (S 7 0 1 * (dd_ S f).2 < f j) && !ip_ S j) (S 7 0 3 * 2)
  rw [show fi_ _ (S 7 0 3 * 2) = k3_ S f from rfl] at ha hle
  constructor
  · rintro ⟨j, h1, h2, h3⟩
    rcases Nat.lt_or_ge (k3_ S f) (S 7 0 3 * 2) with h | h
    · exact h
    · have := ha.2 j (by omega)
      simp [h2, h3] at this
  · intro h
    have := ha.1 h
    simp only [Bool.and_eq_true, decide_eq_true_eq, Bool.not_eq_true'] at this
    exact ⟨_, h, this.2, this.1⟩
theorem mx_le {f : Nat → Nat} {n : Nat} (h : ∀ j, j < n → f j ≤ 1000000) : mx_ S f n ≤ 1000000 := by
  rcases Nat.lt_or_ge 1000000 (mx_ S f n) with h1 | h1
  · obtain ⟨j, a, b, c⟩ := mx_lt.mp h1
    have := h j a; omega
  · exact h1
theorem mp_211W (hM : re_M S D) (hW : wf_ S) {f : Nat → Nat} {P : Int32 → pu_D → Prop} (hl : lm_ S f D) (h1 : u4_ S f = 0 → P 0 D) (h2 : ¬ u4_ S f = 0 → P 4 (pu_wi D 85 45 (nu_l (u4_ S f)))) : pu_h211_188 X (nu_i (S 7 0 3 * 2)) 0 D P := by
  have hn := wf_n hW
  have hMM := wf_m hW
  obtain ⟨-, -, -, -, c4, -, -⟩ := rm_n hM
  refine lo_fi (fun x => pu_h211_188 X (nu_i (S 7 0 3 * 2)) x D P) (S 8 0 4) (fun i => decide (S 4 i 0 < S 7 0 3 * 2) && decide (S 4 i 1 < f (S 4 i 0))) (fun i hi hb h => ?_) ?_
  · have hv := wf_t hW 4 (by decide) (by decide) hi
    have hw := wf_w hW hi
    refine pu_u211_188 ?_
    simp (disch := omega) only [c4, nu_lt, hi, if_true, nu_in, nu_ix, mc_97 hM, mc_98 hM, nu_addn]
    refine ⟨by omega, ?_⟩
    by_cases h1 : S 4 i 0 < S 7 0 3 * 2
    · rw [if_pos h1]
      refine ⟨by omega, by omega, by omega, ?_⟩
      have hv2 := hl _ h1
      simp only [h1, decide_true, Bool.true_and, decide_eq_false_iff_not] at hb
      rw [hv2.1]
      simp (disch := omega) only [nu_lt]
      rw [if_neg hb]; exact h
    · rw [if_neg h1]; exact h
  · have hle := fi_le (fun i => decide (S 4 i 0 < S 7 0 3 * 2) && decide (S 4 i 1 < f (S 4 i 0))) (S 8 0 4)
    have ha := (fi_at (fun i => decide (S 4 i 0 < S 7 0 3 * 2) && decide (S 4 i 1 < f (S 4 i 0))) (S 8 0 4)).1
    rw [show fi_ _ (S 8 0 4) = k4_ S f from rfl] at hle ha ⊢
    refine pu_u211_188 ?_
    simp (disch := omega) only [c4, nu_lt]
    by_cases h : k4_ S f < S 8 0 4
    · have h3 := ha h
      simp only [Bool.and_eq_true, decide_eq_true_eq] at h3
      have hv := wf_t hW 4 (by decide) (by decide) h
      have hw := wf_w hW h
      have hv2 := hl _ h3.1
      have e4 : u4_ S f = S 4 (k4_ S f) 0 + 1 := if_pos h
      rw [if_pos h]
      simp (disch := omega) only [nu_in, nu_ix, mc_97 hM h, mc_98 hM h, nu_lt]
      refine ⟨by omega, ?_⟩
      rw [if_pos h3.1]
      refine ⟨by omega, by omega, by omega, ?_⟩
      rw [hv2.1]
      simp (disch := omega) only [nu_lt]
      rw [if_pos h3.2]
      have := h2 (by omega)
      rw [e4, nu_lS] at this
      exact ⟨by omega, this⟩
    · rw [if_neg h]
      exact h1 (if_neg h)
theorem mp_211 (hM : re_M S D) (hW : wf_ S) {f : Nat → Nat} {P : Int32 → pu_D → Prop} (hl : lm_ S f D) (hP : ∀ D', ag_ (fun q j => q = 85 ∧ j = 45) D D' → D'.1 85 45 = pa_ S f → P (nu_i (ru_ S f)) D') : pu_I X 211 [.ref 85] D P := by
  have hMM := wf_m hW
  have aD : ag_ (fun q j => q = 85 ∧ j = 45) D (pu_wi D 85 45 (-1)) := ag_wi (ag_rf D) ⟨rfl, rfl⟩
  have hM1 := rm_ag hM aD (fun q j hz => by omega)
  have hl1 : lm_ S f (pu_wi D 85 45 (-1)) := fun j hj => ⟨by rw [wi_q (by omega)]; exact (hl j hj).1, (hl j hj).2⟩
  have hd1 : (pu_wi D 85 45 (-1)).1 85 45 = -1 := wi_eq
  obtain ⟨-, -, -, m3⟩ := rm_m hM
  refine pu_e211 ?_
  rw [m3, nu_nmul, show (OfNat.ofNat 2 : Nat) * S 7 0 3 = S 7 0 3 * 2 from Nat.mul_comm _ _]
  generalize pu_wi D 85 45 (-1) = D1 at aD hM1 hl1 hd1 ⊢
  have hres : ∀ (y : Int32) (D' : pu_D), ag_ (fun q j => q = 85 ∧ j = 45) D1 D' → y = nu_i (ru_ S f) → D'.1 85 45 = pa_ S f → P y D' := fun y D' a e1 e2 => by rw [e1]; exact hP D' (ag_tr aD a) e2
  obtain ⟨m0, m1, -, m3'⟩ := rm_m hM1
  have dk2 : ∀ i, i ≤ S 7 0 3 * 2 → (dk_ S f i).1 ≤ i ∧ (dk_ S f i).2 ≤ 1000000 ∧ (¬ (dk_ S f i).1 = 0 → (dk_ S f i).2 = f ((dk_ S f i).1 - 1)) := by
    intro i hi
    have hd := dk_le (S := S) (f := f) (n := i)
    refine ⟨hd.1, ?_, hd.2.1⟩
    by_cases h0 : (dk_ S f i).1 = 0
    · rw [hd.2.2 h0]; omega
    · rw [hd.2.1 h0]; exact (hl _ (by omega)).2
  refine lo_S (fun i (r : (Nat × Nat) × Nat) => r.1 = dk_ S f i ∧ r.2 = mx_ S f i ∧ ∀ j, j < i → (decide (f j < S 7 0 0) && !ip_ S j) = false) (fun r x => pu_h211_19 X (nu_i (S 7 0 3 * 2)) (nu_l r.1.1) (nu_i r.2) x D1 P) (S 7 0 3 * 2) ((0, 0), 0) ⟨rfl, rfl, fun j hj => absurd hj (Nat.not_lt_zero _)⟩ (fun i r hi hI hk2 => ?_) (fun r hI => ?_)
  · obtain ⟨⟨lo, lv⟩, mo⟩ := r
    obtain ⟨h1, h2, h3⟩ := hI
    dsimp only at h1 h2
    have hv := hl1 i hi
    obtain ⟨b1, b2, b3⟩ := dk2 i (Nat.le_of_lt hi)
    rw [← h1] at b1 b2 b3
    have b4 : mo ≤ 1000000 := by rw [h2]; exact mx_le fun j hj => (hl j (by omega)).2
    have hdk := dk_succ (S := S) (f := f) (n := i)
    have hmx := mx_succ (S := S) (f := f) (n := i)
    rw [← h1] at hdk
    rw [← h2] at hmx
    refine pu_u211_19 ?_
    simp (disch := omega) only [nu_lt, hi, if_true, mp_210 hM1 hW (q := i) (by omega), nu_b0, nu_in, nu_ix, hv.1, m0, nu_lm, nu_addn]
    by_cases hp : ip_ S i = true
    · rw [if_neg (by simpa using hp)]
      rw [if_pos hp] at hdk hmx
      exact hk2 ((lo, lv), mo) ⟨hdk.symm, hmx.symm, fun j hj => by
        by_cases hji : j = i
        · subst hji; simp [hp]
        · exact h3 j (by omega)⟩
    · rw [if_pos hp]
      rw [if_neg hp] at hdk hmx
      refine ⟨by omega, ?_⟩
      by_cases hd : f i < S 7 0 0
      · rw [if_pos hd]
        have e1 : k1_ S f = i := fi_eq (Nat.le_of_lt hi) h3 (fun _ => by simp [hd, hp])
        have e2 : ru_ S f = 1 := by unfold ru_; rw [e1, if_pos hi]
        exact hres 1 _ (ag_wi (ag_rf D1) ⟨rfl, rfl⟩) (by rw [e2]; rfl) (by rw [wi_eq]; unfold pa_; rw [e2, if_pos rfl, e1])
      · rw [if_neg hd]
        have h3' : ∀ j, j < i + 1 → (decide (f j < S 7 0 0) && !ip_ S j) = false := fun j hj => by
          by_cases hji : j = i
          · subst hji; simp [hd]
          · exact h3 j (by omega)
        have hmost : ∀ (lo' lv' : Nat), (lo', lv') = dk_ S f (i + 1) → (if mo < f i then ((i < 120) ∧ pu_h211_19 X (nu_i (S 7 0 3 * 2)) (nu_l lo') (nu_i (f i)) (nu_i (i + 1)) D1 P) else (pu_h211_19 X (nu_i (S 7 0 3 * 2)) (nu_l lo') (nu_i mo) (nu_i (i + 1)) D1 P)) := by
          intro lo' lv' he
          by_cases hm : mo < f i
          · rw [if_pos hm]
            exact ⟨by omega, hk2 ((lo', lv'), f i) ⟨he, by rw [hmx, Nat.max_eq_right (by omega)], h3'⟩⟩
          · rw [if_neg hm]
            exact hk2 ((lo', lv'), mo) ⟨he, by rw [hmx, Nat.max_eq_left (by omega)], h3'⟩
        by_cases h0 : lo = 0
        · rw [if_pos h0]
          rw [if_pos h0] at hdk
          refine ⟨by omega, ?_⟩
          have := hmost (i + 1) (f i) hdk.symm
          rw [nu_lS] at this
          exact this
        · rw [if_neg h0]
          rw [if_neg h0] at hdk
          have hvlo := hl1 (lo - 1) (by omega)
          rw [nu_lp h0]
          simp (disch := omega) only [nu_in, nu_ix, hvlo.1, nu_lt]
          refine ⟨by omega, by omega, ?_⟩
          rw [← b3 h0]
          by_cases hc : f i < lv
          · rw [if_pos hc]
            rw [if_pos hc] at hdk
            refine ⟨by omega, ?_⟩
            have := hmost (i + 1) (f i) hdk.symm
            rw [nu_lS] at this
            exact this
          · rw [if_neg hc]
            rw [if_neg hc] at hdk
            refine ⟨by omega, ?_⟩
            have := hmost lo lv hdk.symm
            rw [nu_lp h0] at this
            exact this
  · obtain ⟨⟨lo, lv⟩, mo⟩ := r
    obtain ⟨h1, h2, h3⟩ := hI
    dsimp only at h1 h2
    obtain ⟨b1, b2, b3⟩ := dk2 (S 7 0 3 * 2) (Nat.le_refl _)
    rw [← h1] at b1 b2 b3
    have b4 : mo ≤ 1000000 := by rw [h2]; exact mx_le fun j hj => (hl j hj).2
    have hk1 : ¬ k1_ S f < S 7 0 3 * 2 := by
      have : k1_ S f = S 7 0 3 * 2 := fi_eq (Nat.le_refl _) h3 (fun h => absurd h (Nat.lt_irrefl _))
      omega
    have hddf : dd_ S f = (lo, lv) := h1.symm
    refine pu_u211_19 ?_
    simp (disch := omega) only [nu_lt, Nat.lt_irrefl, if_false]
    refine lo_fi (fun x => pu_h211_115 X (nu_i (S 7 0 3 * 2)) (nu_l lo) (nu_i mo) x D1 P) (S 7 0 3 * 2) (fun j => decide (5 < f j) && ip_ S j) (fun i hi hb h => ?_) ?_
    · have hv := hl1 i hi
      refine pu_u211_115 ?_
      simp (disch := omega) only [nu_lt, hi, if_true, mp_210 hM1 hW (q := i) (by omega), nu_b0, nu_in, nu_ix, hv.1, nu_nlt, nu_addn]
      by_cases hp : ip_ S i = true
      · rw [if_neg (by simpa using hp)]
        simp only [hp, Bool.and_true, decide_eq_false_iff_not] at hb
        rw [if_neg hb]
        exact ⟨by omega, h⟩
      · rw [if_pos hp]; exact h
    · have hle := fi_le (fun j => decide (5 < f j) && ip_ S j) (S 7 0 3 * 2)
      have ha := (fi_at (fun j => decide (5 < f j) && ip_ S j) (S 7 0 3 * 2)).1
      rw [show fi_ _ (S 7 0 3 * 2) = k2_ S f from rfl] at hle ha ⊢
      refine pu_u211_115 ?_
      simp (disch := omega) only [nu_lt]
      by_cases h : k2_ S f < S 7 0 3 * 2
      · have hv := hl1 _ h
        have h4 := ha h
        simp only [Bool.and_eq_true, decide_eq_true_eq] at h4
        rw [if_pos h]
        simp (disch := omega) only [mp_210 hM1 hW (q := k2_ S f) (by omega), nu_b0, nu_in, nu_ix, hv.1, nu_nlt]
        rw [if_neg (by simpa using h4.2), if_pos h4.1]
        have e2 : ru_ S f = 2 := by unfold ru_; rw [if_neg hk1, if_pos h]
        exact ⟨by omega, hres 2 _ (ag_wi (ag_rf D1) ⟨rfl, rfl⟩) (by rw [e2]; rfl) (by rw [wi_eq]; unfold pa_; rw [e2, if_neg (by omega), if_pos rfl])⟩
      · rw [if_neg h]
        have hwin : u3_ S f = 0 → pu_h211_188 X (nu_i (S 7 0 3 * 2)) 0 D1 P := by
          intro hu3
          refine mp_211W hM1 hW hl1 (fun hu4 => ?_) (fun hu4 => ?_)
          · have e2 : ru_ S f = 0 := by unfold ru_; rw [if_neg hk1, if_neg h, if_neg (fun z => z hu3), if_neg (fun z => z hu4)]
            exact hres 0 _ (ag_rf D1) (by rw [e2]; rfl) (by rw [hd1]; unfold pa_; rw [e2]; rfl)
          · have e2 : ru_ S f = 4 := by unfold ru_; rw [if_neg hk1, if_neg h, if_neg (fun z => z hu3), if_pos hu4]
            exact hres 4 _ (ag_wi (ag_rf D1) ⟨rfl, rfl⟩) (by rw [e2]; rfl) (by rw [wi_eq]; unfold pa_; rw [e2, if_neg (by omega), if_neg (by omega), if_neg (by omega), if_pos rfl])
        by_cases h0 : lo = 0
        · rw [h0, nu_l0, if_pos rfl]
          exact hwin (by unfold u3_; rw [hddf, if_pos h0])
        · have hvlo := hl1 (lo - 1) (by omega)
          have hmul : S 7 0 1 * lv ≤ 99 * 1000000 := Nat.mul_le_mul hMM.2.1.2 b2
          rw [← b3 h0] at hvlo
          rw [nu_lp h0, if_neg (by rw [nu_m1 (by omega)]; exact fun z => z)]
          simp (disch := omega) only [nu_in, nu_ix, hvlo.1, m1, nu_mul, nu_lt]
          refine ⟨by omega, ?_⟩
          have hk3 : (S 7 0 1 * lv < mo) ↔ k3_ S f < S 7 0 3 * 2 := by rw [← k3_lt, hddf, h2]
          by_cases hc : S 7 0 1 * lv < mo
          · rw [if_pos hc]
            have hu3 : u3_ S f = lo := by unfold u3_; rw [hddf, if_neg h0, if_pos (hk3.mp hc)]
            have e2 : ru_ S f = 3 := by unfold ru_; rw [if_neg hk1, if_neg h, if_pos (by rw [hu3]; exact h0)]
            exact hres 3 _ (ag_wi (ag_rf D1) ⟨rfl, rfl⟩) (by rw [e2]; rfl) (by rw [wi_eq]; unfold pa_; rw [e2, if_neg (by omega), if_neg (by omega), if_pos rfl, hu3, nu_lp h0])
          · rw [if_neg hc]
            exact hwin (by unfold u3_; rw [hddf, if_neg h0, if_neg (fun z => hc (hk3.mpr z))])
end MO
