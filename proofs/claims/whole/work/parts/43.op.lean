/-! FACE, FAULTY, DARK, SHADE. -/
section OP
variable {X : px_X} {S : Nat → Nat → Nat → Nat} {D : pu_D}
theorem mp_209L (hM : re_M S D) (hW : wf_ S) {n k a w v q m hh : Nat} {P : Int32 → pu_D → Prop} (hn : n < 8) (hl : la_ D n k a w v) (hq : q < 120) (hm : m < 12) (hh2 : hh < 12) (h : P (nu_i (fa_ S (bn_ S k a w) (hb_ k a hh) q m)) D) : pu_h209_96 X (nu_i n) (nu_i q) (nu_i m) (nu_i hh) (nu_i (bn_ S k a w)) 0 0 D P := by
  have hnn := wf_n hW
  obtain ⟨-, c5, -⟩ := rm_n hM
  obtain ⟨⟨l1, l3, l4, hk, ha, hw, ha2⟩, h2, h3, h4, h5, h6, h7⟩ := hl
  have hsl := sl_bn hW (w := w) ha2
  have hs1 := hsl.1
  refine lo_ix (fun b x => pu_h209_96 X (nu_i n) (nu_i q) (nu_i m) (nu_i hh) (nu_i (bn_ S k a w)) (nu_i b) x D P) (S 8 0 1) (su_ (fun p => if q / 2 < S 1 p 0 / 2 then (if (bn_ S k a w).testBit p = true then ol_ S (hb_ k a hh) p q m / 2 else 0) else 0)) (fun i hi hy => ?_) ?_
  · have hv := wf_p hW hi
    refine pu_u209_96 ?_
    simp (disch := first | assumption | omega) only [c5, nu_lt, hi, if_true, nu_inS, nu_b1, nu_in, nu_ix, mc_91 hM, nu_divn, h5, h6, nu_eqn, nu_addn]
    by_cases hb : (bn_ S k a w).testBit i = true
    · rw [if_pos hb]
      refine ⟨by omega, ?_⟩
      by_cases hy2 : q / 2 < S 1 i 0 / 2
      · rw [if_pos hy2]
        simp only [su_, hb, hy2, if_true] at hy
        refine ⟨hn, ?_⟩
        have g := ol_le hW (h := hb_ k a hh) (q := q) (m := m) hi (hsl.2 i hi hb)
        have e := fun (b : Bool) (hb2 : hb_ k a hh = b) => mp_205 (X := X) hM hW (h := b) (P := fun y11 D12 => pu_h209_96 X (nu_i n) (nu_i q) (nu_i m) (nu_i hh) (nu_i (bn_ S k a w)) (nu_i (su_ (fun p => if q / 2 < S 1 p 0 / 2 then (if (bn_ S k a w).testBit p = true then ol_ S (hb_ k a hh) p q m / 2 else 0) else 0) i) + y11 / 2) (nu_i (i + 1)) D12 P) hi (hsl.2 i hi hb) hq hm
        by_cases h4 : k = 4
        · rw [if_pos h4]
          refine ⟨hn, ?_⟩
          by_cases h5 : hh < a
          · rw [if_pos h5]
            have hf : hb_ k a hh = false := by simp [hb_, h5]
            refine (e false hf).mpr ?_
            rw [hf] at hy g ⊢
            rw [nu_divn (by omega) (by omega), nu_add]; exact hy
          · rw [if_neg h5]
            have hf : hb_ k a hh = true := by simp [hb_, h4, h5]
            refine (e true hf).mpr ?_
            rw [hf] at hy g ⊢
            rw [nu_divn (by omega) (by omega), nu_add]; exact hy
        · rw [if_neg h4]
          have hf : hb_ k a hh = false := by simp [hb_, h4]
          refine (e false hf).mpr ?_
          rw [hf] at hy g ⊢
          rw [nu_divn (by omega) (by omega), nu_add]; exact hy
      · rw [if_neg hy2]
        simp only [su_, hy2, if_false, Nat.add_zero] at hy
        exact hy
    · rw [if_neg hb]
      simp only [su_, hb, if_false, ite_self, Nat.add_zero, Bool.false_eq_true] at hy
      exact hy
  · refine pu_u209_96 ?_
    simp (disch := omega) only [c5, nu_lt, Nat.lt_irrefl, if_false]
    exact h
theorem mp_229L (hM : re_M S D) (hW : wf_ S) {n k a w v q m : Nat} {P : Int32 → pu_D → Prop} (hn : n < 8) (hl : la_ D n k a w v) (hq : q < 120) (hm : m < 12) (h : P (nu_l (br_ S (bn_ S k a w) (hb_ k a 0) q m (S 8 0 1)).1) D) : pu_h229_90 X (nu_i n) (nu_i q) (nu_i m) (nu_i (bn_ S k a w)) (-1) 0 0 D P := by
  have hnn := wf_n hW
  obtain ⟨-, c5, -⟩ := rm_n hM
  obtain ⟨⟨l1, l3, l4, hk, ha, hw, ha2⟩, h2, h3, h4, h5, h6, h7⟩ := hl
  have hsl := sl_bn hW (w := w) ha2
  have hs1 := hsl.1
  refine lo_ix (fun (r : Nat × Nat) x => pu_h229_90 X (nu_i n) (nu_i q) (nu_i m) (nu_i (bn_ S k a w)) (nu_l r.1) (nu_i r.2) x D P) (S 8 0 1) (br_ S (bn_ S k a w) (hb_ k a 0) q m) (fun i hi hy => ?_) ?_
  · have hb9 := br_le hW (h := hb_ k a 0) (q := q) (m := m) (Nat.le_of_lt hi) hsl
    rw [br_succ] at hy
    refine pu_u229_90 ?_
    simp (disch := first | assumption | omega) only [c5, nu_lt, hi, if_true, nu_inS, nu_b0, nu_in, nu_ix, h5, h6, nu_eqn, nu_addn]
    by_cases hb : (bn_ S k a w).testBit i = true
    · rw [if_neg (show ¬ ¬ _ from fun z => z hb)]
      refine ⟨hn, ?_⟩
      have g := ol_le hW (h := hb_ k a 0) (q := q) (m := m) hi (hsl.2 i hi hb)
      have e := fun (b : Bool) (hb2 : hb_ k a 0 = b) => mp_205 (X := X) hM hW (h := b) (P := fun y33 D34 => if nu_i (br_ S (bn_ S k a w) (hb_ k a 0) q m i).2 < y33 then (pu_h229_90 X (nu_i n) (nu_i q) (nu_i m) (nu_i (bn_ S k a w)) (nu_i i) y33 (nu_i (i + 1)) D34 P) else (pu_h229_90 X (nu_i n) (nu_i q) (nu_i m) (nu_i (bn_ S k a w)) (nu_l (br_ S (bn_ S k a w) (hb_ k a 0) q m i).1) (nu_i (br_ S (bn_ S k a w) (hb_ k a 0) q m i).2) (nu_i (i + 1)) D34 P)) hi (hsl.2 i hi hb) hq hm
      have fin : if nu_i (br_ S (bn_ S k a w) (hb_ k a 0) q m i).2 < nu_i (ol_ S (hb_ k a 0) i q m) then (pu_h229_90 X (nu_i n) (nu_i q) (nu_i m) (nu_i (bn_ S k a w)) (nu_i i) (nu_i (ol_ S (hb_ k a 0) i q m)) (nu_i (i + 1)) D P) else (pu_h229_90 X (nu_i n) (nu_i q) (nu_i m) (nu_i (bn_ S k a w)) (nu_l (br_ S (bn_ S k a w) (hb_ k a 0) q m i).1) (nu_i (br_ S (bn_ S k a w) (hb_ k a 0) q m i).2) (nu_i (i + 1)) D P) := by
        simp (disch := omega) only [nu_lt]
        by_cases h3 : (br_ S (bn_ S k a w) (hb_ k a 0) q m i).2 < ol_ S (hb_ k a 0) i q m
        · rw [if_pos h3]; rw [if_pos ⟨hb, h3⟩] at hy; exact hy
        · rw [if_neg h3]; rw [if_neg (fun z => h3 z.2)] at hy; exact hy
      by_cases h4 : k = 4
      · rw [if_pos h4]
        refine ⟨hn, ?_⟩
        by_cases h5 : a = 0
        · rw [if_pos h5]
          have hf : hb_ k a 0 = true := by simp [hb_, h4, h5]
          refine (e true hf).mpr ?_
          rw [hf] at fin ⊢; exact fin
        · rw [if_neg h5]
          have hf : hb_ k a 0 = false := by simp [hb_]; omega
          refine (e false hf).mpr ?_
          rw [hf] at fin ⊢; exact fin
      · rw [if_neg h4]
        have hf : hb_ k a 0 = false := by simp [hb_, h4]
        refine (e false hf).mpr ?_
        rw [hf] at fin ⊢; exact fin
    · rw [if_pos hb]; rw [if_neg (fun z => hb z.1)] at hy; exact hy
  · refine pu_u229_90 ?_
    simp (disch := omega) only [c5, nu_lt, Nat.lt_irrefl, if_false]
    exact h
theorem zz_li : ∀ q j : Nat, 52 ≤ q ∧ q ≤ 55 → zz_ q j := fun q j h => by unfold zz_; omega
theorem oq_107 (h : rel_ D) {x1 x2 x3 x4 : Int32} : op_ X D 107 [.ref 0, .int x1, .int x2, .int x3, .int x4] 209 [.ref 85, .int x1, .int x2, .int x3, .int x4] := by
  obtain ⟨S, hr⟩ := h
  have hr2 := hr
  obtain ⟨hW, hC, hM, -, -, hS, -⟩ := hr2
  refine pu_e107 ?_
  simp only [sp_139, sp_140b, sp_141, nu_b0]
  rcases sh_cases hS X x1 with ⟨c8, ab⟩ | ⟨n, hn, rfl, hcs⟩
  · have e : ∀ y3 P, pu_I X 134 [.ref 0, .int x1, .int (nu_b (rg_ x2 120)), .int y3] D P = P (-1) D := fun y3 P => by rw [sp_134 ab, if_neg (show ¬ (-1 : Int32) = 0 by decide), ite_self]
    simp (decide := true) only [e, if_false, ite_self, sp_130_1]
    refine pu_e209 ?_
    rw [mp_151, nu_bF c8, if_pos rfl, mp_149_1]
    exact ⟨rfl, S, rx_rf hr⟩
  have e8 := rg_i (n := 8) (by omega) hn
  by_cases c2 : rg_ x2 120
  · rcases hcs with ⟨h0, ab⟩ | ⟨so, sz, h0, ab⟩ | ⟨k, a, w, v, h0, ab⟩
    · have e : ∀ y3 P, pu_I X 134 [.ref 0, .int (nu_i n), .int (nu_b (rg_ x2 120)), .int y3] D P = P (-3) D := fun y3 P => by rw [sp_134 ab, if_pos c2, if_neg (show ¬ (-3 : Int32) = 0 by decide)]
      simp (decide := true) only [e, if_false, ite_self, sp_130_3]
      refine pu_e209 ?_
      rw [mp_151, nu_bT e8, if_neg (by decide), mp_152, nu_bT c2, if_neg (by decide), (ab.2.2 (rf_ D 3) (fun j => wi_q (by omega))).2, if_neg (by decide), mp_149_3]
      exact ⟨rfl, S, rx_rf hr⟩
    · have e : ∀ y3 P, pu_I X 134 [.ref 0, .int (nu_i n), .int (nu_b (rg_ x2 120)), .int y3] D P = P (-2) D := fun y3 P => by rw [sp_134 ab, if_pos c2, if_neg (show ¬ (-2 : Int32) = 0 by decide)]
      simp (decide := true) only [e, if_false, ite_self, sp_130_2]
      refine pu_e209 ?_
      rw [mp_151, nu_bT e8, if_neg (by decide), mp_152, nu_bT c2, if_neg (by decide), (ab.2.2 (rf_ D 2) (fun j => wi_q (by omega))).2, if_neg (by decide), mp_149_2]
      exact ⟨rfl, S, rx_rf hr⟩
    · have e : ∀ y3 P, pu_I X 134 [.ref 0, .int (nu_i n), .int (nu_b (rg_ x2 120)), .int y3] D P = P (if y3 = 0 then -6 else 0) D := fun y3 P => by rw [sp_134 ab, if_pos c2, if_pos rfl]
      have ab3 := fun D1 hD1 => (ab.2.2 D1 hD1).2
      obtain ⟨s1, s2, s3⟩ := sv_ hn
      obtain ⟨q, hq, rfl⟩ := rg_e (by omega) c2
      by_cases c3 : rg_ x3 12
      · by_cases c4 : rg_ x4 12
        · rw [if_neg (show ¬ ¬ rg_ x3 12 from fun z => z c3), if_neg (show ¬ ¬ rg_ x4 12 from fun z => z c4), e, if_pos (show (if (1 : Int32) = 0 then (-6 : Int32) else 0) = 0 by decide)]
          obtain ⟨m, hm, rfl⟩ := rg_e (by omega) c3
          obtain ⟨hh, hh2, rfl⟩ := rg_e (by omega) c4
          refine ⟨by rw [nu_in (by omega)]; exact hn, ?_⟩
          rw [nu_ix (by omega), s1]
          obtain ⟨⟨l1, l3, l4, hk, ha, hw, ha2⟩, h2, h3, h4, h5, h6, h7⟩ := id h0
          rw [sp_57 hC hW s2 h0.1, sp_44 s2 h0.1 hh2, sp_65 hC hW (sl_bn hW ha2) hq hm]
          refine pu_e209 ?_
          rw [mp_151, nu_bT e8, if_neg (by decide), mp_152, nu_bT c2, if_neg (by decide), ab3 D (fun j => rfl), if_pos rfl, mp_156, nu_bT c3, if_neg (by decide), mp_156, nu_bT c4, if_neg (by decide), nu_ix (show n < 2147483648 by omega), h5, h6, h7, mp_202 hM hW hk ha h2 ha2, bn_w h3]
          refine ⟨by rw [nu_in (by omega)]; exact hn, by rw [nu_in (by omega)]; exact hn, by rw [nu_in (by omega)]; exact hn, mp_209L hM hW hn h0 hq hm hh2 ⟨rfl, S, hr⟩⟩
        · rw [if_neg (show ¬ ¬ rg_ x3 12 from fun z => z c3), if_pos c4, e, if_neg (show ¬ (if (0 : Int32) = 0 then (-6 : Int32) else 0) = 0 by decide)]
          show pu_I X 130 [.ref 0, .int (-6)] D _
          rw [sp_130_6]
          refine pu_e209 ?_
          rw [mp_151, nu_bT e8, if_neg (by decide), mp_152, nu_bT c2, if_neg (by decide), ab3 (rf_ D 6) (fun j => wi_q (by omega)), if_pos rfl, mp_156, nu_bT c3, if_neg (by decide), mp_156, nu_bF c4, if_pos rfl, mp_149_6]
          exact ⟨rfl, S, rx_rf hr⟩
      · rw [if_pos c3, e, if_neg (show ¬ (if (0 : Int32) = 0 then (-6 : Int32) else 0) = 0 by decide)]
        show pu_I X 130 [.ref 0, .int (-6)] D _
        rw [sp_130_6]
        refine pu_e209 ?_
        rw [mp_151, nu_bT e8, if_neg (by decide), mp_152, nu_bT c2, if_neg (by decide), ab3 (rf_ D 6) (fun j => wi_q (by omega)), if_pos rfl, mp_156, nu_bF c3, if_pos rfl, mp_149_6]
        exact ⟨rfl, S, rx_rf hr⟩
  · have e : ∀ y3 P, pu_I X 134 [.ref 0, .int (nu_i n), .int (nu_b (rg_ x2 120)), .int y3] D P = P (-1) D := fun y3 P => by
      rcases hcs with ⟨h0, ab⟩ | ⟨so, sz, h0, ab⟩ | ⟨k, a, w, v, h0, ab⟩ <;> rw [sp_134 ab, if_neg c2]
    simp (decide := true) only [e, if_false, ite_self, sp_130_1]
    refine pu_e209 ?_
    rw [mp_151, nu_bT e8, if_neg (by decide), mp_152, nu_bF c2, if_pos rfl, mp_149_1]
    exact ⟨rfl, S, rx_rf hr⟩
theorem oq_118 (h : rel_ D) {x1 x2 x3 : Int32} : op_ X D 118 [.ref 0, .int x1, .int x2, .int x3] 229 [.ref 85, .int x1, .int x2, .int x3] := by
  obtain ⟨S, hr⟩ := h
  have hr2 := hr
  obtain ⟨hW, hC, hM, -, -, hS, -⟩ := hr2
  refine pu_e118 ?_
  simp only [sp_139, sp_140b, sp_141, nu_b0]
  rcases sh_cases hS X x1 with ⟨c8, ab⟩ | ⟨n, hn, rfl, hcs⟩
  · have e : ∀ y3 P, pu_I X 134 [.ref 0, .int x1, .int (nu_b (rg_ x2 120)), .int y3] D P = P (-1) D := fun y3 P => by rw [sp_134 ab, if_neg (show ¬ (-1 : Int32) = 0 by decide), ite_self]
    simp (decide := true) only [e, if_false, ite_self, sp_131_1]
    refine pu_e229 ?_
    rw [mp_151, nu_bF c8, if_pos rfl, mp_150_1]
    exact ⟨rfl, S, rx_rf hr⟩
  have e8 := rg_i (n := 8) (by omega) hn
  by_cases c2 : rg_ x2 120
  · rcases hcs with ⟨h0, ab⟩ | ⟨so, sz, h0, ab⟩ | ⟨k, a, w, v, h0, ab⟩
    · have e : ∀ y3 P, pu_I X 134 [.ref 0, .int (nu_i n), .int (nu_b (rg_ x2 120)), .int y3] D P = P (-3) D := fun y3 P => by rw [sp_134 ab, if_pos c2, if_neg (show ¬ (-3 : Int32) = 0 by decide)]
      simp (decide := true) only [e, if_false, ite_self, sp_131_3]
      refine pu_e229 ?_
      rw [mp_151, nu_bT e8, if_neg (by decide), mp_152, nu_bT c2, if_neg (by decide), (ab.2.2 (rf_ D 3) (fun j => wi_q (by omega))).2, if_neg (by decide), mp_150_3]
      exact ⟨rfl, S, rx_rf hr⟩
    · have e : ∀ y3 P, pu_I X 134 [.ref 0, .int (nu_i n), .int (nu_b (rg_ x2 120)), .int y3] D P = P (-2) D := fun y3 P => by rw [sp_134 ab, if_pos c2, if_neg (show ¬ (-2 : Int32) = 0 by decide)]
      simp (decide := true) only [e, if_false, ite_self, sp_131_2]
      refine pu_e229 ?_
      rw [mp_151, nu_bT e8, if_neg (by decide), mp_152, nu_bT c2, if_neg (by decide), (ab.2.2 (rf_ D 2) (fun j => wi_q (by omega))).2, if_neg (by decide), mp_150_2]
      exact ⟨rfl, S, rx_rf hr⟩
    · have e : ∀ y3 P, pu_I X 134 [.ref 0, .int (nu_i n), .int (nu_b (rg_ x2 120)), .int y3] D P = P (if y3 = 0 then -6 else 0) D := fun y3 P => by rw [sp_134 ab, if_pos c2, if_pos rfl]
      have ab3 := fun D1 hD1 => (ab.2.2 D1 hD1).2
      obtain ⟨s1, s2, s3⟩ := sv_ hn
      obtain ⟨q, hq, rfl⟩ := rg_e (by omega) c2
      by_cases c3 : rg_ x3 12
      · rw [nu_bT c3, e, if_pos (show (if (1 : Int32) = 0 then (-6 : Int32) else 0) = 0 by decide)]
        obtain ⟨m, hm, rfl⟩ := rg_e (by omega) c3
        refine ⟨by rw [nu_in (by omega)]; exact hn, ?_⟩
        rw [nu_ix (by omega), s1]
        obtain ⟨⟨l1, l3, l4, hk, ha, hw, ha2⟩, h2, h3, h4, h5, h6, h7⟩ := id h0
        have e44 := fun P => sp_44 (X := X) (D := D) (h := 0) (P := P) s2 h0.1 (by omega)
        rw [sp_57 hC hW s2 h0.1]
        refine (e44 (fun y11 D12 => pu_I X 66 [.ref 1, .int (nu_i (bn_ S k a w)), .int y11, .int (nu_i q), .int (nu_i m)] D12 _)).mpr ?_
        rw [sp_66 hC hW (sl_bn hW ha2) hq hm]
        refine pu_e229 ?_
        rw [mp_151, nu_bT e8, if_neg (by decide), mp_152, nu_bT c2, if_neg (by decide), ab3 D (fun j => rfl), if_pos rfl, mp_156, nu_bT c3, if_neg (by decide), nu_ix (show n < 2147483648 by omega), h5, h6, h7, mp_202 hM hW hk ha h2 ha2, bn_w h3]
        refine ⟨by rw [nu_in (by omega)]; exact hn, by rw [nu_in (by omega)]; exact hn, by rw [nu_in (by omega)]; exact hn, mp_229L hM hW hn h0 hq hm ⟨rfl, S, hr⟩⟩
      · rw [nu_bF c3, e, if_neg (show ¬ (if (0 : Int32) = 0 then (-6 : Int32) else 0) = 0 by decide)]
        show pu_I X 131 [.ref 0, .int (-6)] D _
        rw [sp_131_6]
        refine pu_e229 ?_
        rw [mp_151, nu_bT e8, if_neg (by decide), mp_152, nu_bT c2, if_neg (by decide), ab3 (rf_ D 6) (fun j => wi_q (by omega)), if_pos rfl, mp_156, nu_bF c3, if_pos rfl, mp_150_6]
        exact ⟨rfl, S, rx_rf hr⟩
  · have e : ∀ y3 P, pu_I X 134 [.ref 0, .int (nu_i n), .int (nu_b (rg_ x2 120)), .int y3] D P = P (-1) D := fun y3 P => by
      rcases hcs with ⟨h0, ab⟩ | ⟨so, sz, h0, ab⟩ | ⟨k, a, w, v, h0, ab⟩ <;> rw [sp_134 ab, if_neg c2]
    simp (decide := true) only [e, if_false, ite_self, sp_131_1]
    refine pu_e229 ?_
    rw [mp_151, nu_bT e8, if_neg (by decide), mp_152, nu_bF c2, if_pos rfl, mp_150_1]
    exact ⟨rfl, S, rx_rf hr⟩
theorem oq_108 (h : rel_ D) {x1 x2 x3 : Int32} : op_ X D 108 [.ref 0, .int x1, .int x2, .int x3] 213 [.ref 85, .int x1, .int x2, .int x3] := by
  obtain ⟨S, hr⟩ := h
  have hr2 := hr
  obtain ⟨hW, hC, hM, -, -, hS, -⟩ := hr2
  refine pu_e108 ?_
  simp only [sp_139, sp_140b, sp_141, nu_b0]
  rcases sh_cases hS X x1 with ⟨c8, ab⟩ | ⟨n, hn, rfl, hcs⟩
  · have e : ∀ y3 P, pu_I X 134 [.ref 0, .int x1, .int 1, .int y3] D P = P (-1) D := fun y3 P => by rw [sp_134o ab, if_neg (show ¬ (-1 : Int32) = 0 by decide)]
    simp (decide := true) only [e, if_false, ite_self, sp_130_1]
    refine pu_e213 ?_
    rw [((ab.2.2 (rf_ D 1) (fun j => wi_q (by omega))).2), if_neg (by decide), mp_149_1]
    exact ⟨rfl, S, rx_rf hr⟩
  have e8 := rg_i (n := 8) (by omega) hn
  rcases hcs with ⟨h0, ab⟩ | ⟨so, sz, h0, ab⟩ | ⟨k, a, w, v, h0, ab⟩
  · have e : ∀ y3 P, pu_I X 134 [.ref 0, .int (nu_i n), .int 1, .int y3] D P = P (-3) D := fun y3 P => by rw [sp_134o ab, if_neg (show ¬ (-3 : Int32) = 0 by decide)]
    simp (decide := true) only [e, if_false, ite_self, sp_130_3]
    refine pu_e213 ?_
    rw [(ab.2.2 (rf_ D 3) (fun j => wi_q (by omega))).2, if_neg (by decide), mp_149_3]
    exact ⟨rfl, S, rx_rf hr⟩
  · have e : ∀ y3 P, pu_I X 134 [.ref 0, .int (nu_i n), .int 1, .int y3] D P = P (-2) D := fun y3 P => by rw [sp_134o ab, if_neg (show ¬ (-2 : Int32) = 0 by decide)]
    simp (decide := true) only [e, if_false, ite_self, sp_130_2]
    refine pu_e213 ?_
    rw [(ab.2.2 (rf_ D 2) (fun j => wi_q (by omega))).2, if_neg (by decide), mp_149_2]
    exact ⟨rfl, S, rx_rf hr⟩
  · have e : ∀ y3 P, pu_I X 134 [.ref 0, .int (nu_i n), .int 1, .int y3] D P = P (if y3 = 0 then -6 else 0) D := fun y3 P => by rw [sp_134o ab, if_pos rfl]
    have ab3 := fun D1 hD1 => (ab.2.2 D1 hD1).2
    obtain ⟨s1, s2, s3⟩ := sv_ hn
    by_cases c3 : rg_ x2 12
    · by_cases c4 : rg_ x3 12
      · rw [if_neg (show ¬ ¬ rg_ x2 12 from fun z => z c3), if_neg (show ¬ ¬ rg_ x3 12 from fun z => z c4), e, if_pos (show (if (1 : Int32) = 0 then (-6 : Int32) else 0) = 0 by decide)]
        obtain ⟨m, hm, rfl⟩ := rg_e (by omega) c3
        obtain ⟨hh, hh2, rfl⟩ := rg_e (by omega) c4
        refine ⟨by rw [nu_in (by omega)]; exact hn, ?_⟩
        rw [nu_ix (by omega), s1]
        obtain ⟨⟨l1, l3, l4, hk, ha, hw, ha2⟩, h2, h3, h4, h5, h6, h7⟩ := id h0
        refine sp_137 hC hW s2 h0.1 hm hh2 fun D1 a1 p1 l1' => ?_
        have az := ag_mo a1 zz_li
        have hr1 := rx_ag hr az
        have hM1 := hr1.2.2.1
        have g0 := la_ag hn h0 az zz_sh
        obtain ⟨-, -, -, g4, g5, g6, g7⟩ := g0
        refine pu_e213 ?_
        rw [ab3 D1 (fun j => a1.1 _ _ (by omega)), if_pos rfl, mp_156, nu_bT c3, if_neg (by decide), mp_156, nu_bT c4, if_neg (by decide), nu_ix (show n < 2147483648 by omega), g5, g6, g7]
        refine ⟨by rw [nu_in (by omega)]; exact hn, by rw [nu_in (by omega)]; exact hn, by rw [nu_in (by omega)]; exact hn, ?_⟩
        refine mp_212 hM1 hW hk ha h2 ha2 hm hh2 fun D2 a2 l2 => ?_
        rw [bn_w h3] at l2
        refine mp_211 (rm_ag hM1 a2 zj_m) hW l2 fun D3 a3 d3 => ?_
        exact ⟨rfl, S, rx_ag (rx_ag hr1 (ag_mo a2 fun q j hz => by unfold zj_ at hz; unfold zz_; omega)) (ag_mo a3 fun q j hz => by unfold zz_; omega)⟩
      · rw [if_neg (show ¬ ¬ rg_ x2 12 from fun z => z c3), if_pos c4, e, if_neg (show ¬ (if (0 : Int32) = 0 then (-6 : Int32) else 0) = 0 by decide)]
        show pu_I X 130 [.ref 0, .int (-6)] D _
        rw [sp_130_6]
        refine pu_e213 ?_
        rw [ab3 (rf_ D 6) (fun j => wi_q (by omega)), if_pos rfl, mp_156, nu_bT c3, if_neg (by decide), mp_156, nu_bF c4, if_pos rfl, mp_149_6]
        exact ⟨rfl, S, rx_rf hr⟩
    · rw [if_pos c3, e, if_neg (show ¬ (if (0 : Int32) = 0 then (-6 : Int32) else 0) = 0 by decide)]
      show pu_I X 130 [.ref 0, .int (-6)] D _
      rw [sp_130_6]
      refine pu_e213 ?_
      rw [ab3 (rf_ D 6) (fun j => wi_q (by omega)), if_pos rfl, mp_156, nu_bF c3, if_pos rfl, mp_149_6]
      exact ⟨rfl, S, rx_rf hr⟩
theorem oq_109 (h : rel_ D) {x1 x2 x3 : Int32} : op_ X D 109 [.ref 0, .int x1, .int x2, .int x3] 214 [.ref 85, .int x1, .int x2, .int x3] := by
  obtain ⟨S, hr⟩ := h
  have hr2 := hr
  obtain ⟨hW, hC, hM, -, -, hS, -⟩ := hr2
  refine pu_e109 ?_
  simp only [sp_139, sp_140b, sp_141, nu_b0]
  rcases sh_cases hS X x1 with ⟨c8, ab⟩ | ⟨n, hn, rfl, hcs⟩
  · have e : ∀ y3 P, pu_I X 134 [.ref 0, .int x1, .int 1, .int y3] D P = P (-1) D := fun y3 P => by rw [sp_134o ab, if_neg (show ¬ (-1 : Int32) = 0 by decide)]
    simp (decide := true) only [e, if_false, ite_self, sp_131_1]
    refine pu_e214 ?_
    rw [((ab.2.2 (rf_ D 1) (fun j => wi_q (by omega))).2), if_neg (by decide), mp_150_1]
    exact ⟨rfl, S, rx_rf hr⟩
  have e8 := rg_i (n := 8) (by omega) hn
  rcases hcs with ⟨h0, ab⟩ | ⟨so, sz, h0, ab⟩ | ⟨k, a, w, v, h0, ab⟩
  · have e : ∀ y3 P, pu_I X 134 [.ref 0, .int (nu_i n), .int 1, .int y3] D P = P (-3) D := fun y3 P => by rw [sp_134o ab, if_neg (show ¬ (-3 : Int32) = 0 by decide)]
    simp (decide := true) only [e, if_false, ite_self, sp_131_3]
    refine pu_e214 ?_
    rw [(ab.2.2 (rf_ D 3) (fun j => wi_q (by omega))).2, if_neg (by decide), mp_150_3]
    exact ⟨rfl, S, rx_rf hr⟩
  · have e : ∀ y3 P, pu_I X 134 [.ref 0, .int (nu_i n), .int 1, .int y3] D P = P (-2) D := fun y3 P => by rw [sp_134o ab, if_neg (show ¬ (-2 : Int32) = 0 by decide)]
    simp (decide := true) only [e, if_false, ite_self, sp_131_2]
    refine pu_e214 ?_
    rw [(ab.2.2 (rf_ D 2) (fun j => wi_q (by omega))).2, if_neg (by decide), mp_150_2]
    exact ⟨rfl, S, rx_rf hr⟩
  · have e : ∀ y3 P, pu_I X 134 [.ref 0, .int (nu_i n), .int 1, .int y3] D P = P (if y3 = 0 then -6 else 0) D := fun y3 P => by rw [sp_134o ab, if_pos rfl]
    have ab3 := fun D1 hD1 => (ab.2.2 D1 hD1).2
    obtain ⟨s1, s2, s3⟩ := sv_ hn
    by_cases c3 : rg_ x2 12
    · by_cases c4 : rg_ x3 12
      · rw [if_neg (show ¬ ¬ rg_ x2 12 from fun z => z c3), if_neg (show ¬ ¬ rg_ x3 12 from fun z => z c4), e, if_pos (show (if (1 : Int32) = 0 then (-6 : Int32) else 0) = 0 by decide)]
        obtain ⟨m, hm, rfl⟩ := rg_e (by omega) c3
        obtain ⟨hh, hh2, rfl⟩ := rg_e (by omega) c4
        refine ⟨by rw [nu_in (by omega)]; exact hn, ?_⟩
        rw [nu_ix (by omega), s1]
        obtain ⟨⟨l1, l3, l4, hk, ha, hw, ha2⟩, h2, h3, h4, h5, h6, h7⟩ := id h0
        refine sp_137 hC hW s2 h0.1 hm hh2 fun D1 a1 p1 l1' => ?_
        have az := ag_mo a1 zz_li
        have hr1 := rx_ag hr az
        have hM1 := hr1.2.2.1
        have g0 := la_ag hn h0 az zz_sh
        obtain ⟨-, -, -, g4, g5, g6, g7⟩ := g0
        have hgo : pu_I X 214 [.ref 85, .int (nu_i n), .int (nu_i m), .int (nu_i hh)] D1 (fun y2 D2 => pa_ S (fun j => lt_ S k a w j m hh) = y2 ∧ rel_ D2) := by
          refine pu_e214 ?_
          rw [ab3 D1 (fun j => a1.1 _ _ (by omega)), if_pos rfl, mp_156, nu_bT c3, if_neg (by decide), mp_156, nu_bT c4, if_neg (by decide), nu_ix (show n < 2147483648 by omega), g5, g6, g7]
          refine ⟨by rw [nu_in (by omega)]; exact hn, by rw [nu_in (by omega)]; exact hn, by rw [nu_in (by omega)]; exact hn, ?_⟩
          refine mp_212 hM1 hW hk ha h2 ha2 hm hh2 fun D2 a2 l2 => ?_
          rw [bn_w h3] at l2
          refine mp_211 (rm_ag hM1 a2 zj_m) hW l2 fun D3 a3 d3 => ?_
          exact ⟨d3.symm, S, rx_ag (rx_ag hr1 (ag_mo a2 fun q j hz => by unfold zj_ at hz; unfold zz_; omega)) (ag_mo a3 fun q j hz => by unfold zz_; omega)⟩
        have hru := ru_le (S := S) (f := fun j => lt_ S k a w j m hh)
        by_cases h00 : ru_ S (fun j => lt_ S k a w j m hh) = 0
        · rw [h00, if_pos (by rfl)]
          have : pa_ S (fun j => lt_ S k a w j m hh) = -1 := by unfold pa_; rw [h00]; rfl
          rw [this] at hgo; exact hgo
        · rw [if_neg (by rw [nu_eqn (by omega) (by omega)]; exact h00), sp_24 (re_Z hC a1 fun q j hz => by omega) hW p1 l1']
          exact hgo
      · rw [if_neg (show ¬ ¬ rg_ x2 12 from fun z => z c3), if_pos c4, e, if_neg (show ¬ (if (0 : Int32) = 0 then (-6 : Int32) else 0) = 0 by decide)]
        show pu_I X 131 [.ref 0, .int (-6)] D _
        rw [sp_131_6]
        refine pu_e214 ?_
        rw [ab3 (rf_ D 6) (fun j => wi_q (by omega)), if_pos rfl, mp_156, nu_bT c3, if_neg (by decide), mp_156, nu_bF c4, if_pos rfl, mp_150_6]
        exact ⟨rfl, S, rx_rf hr⟩
    · rw [if_pos c3, e, if_neg (show ¬ (if (0 : Int32) = 0 then (-6 : Int32) else 0) = 0 by decide)]
      show pu_I X 131 [.ref 0, .int (-6)] D _
      rw [sp_131_6]
      refine pu_e214 ?_
      rw [ab3 (rf_ D 6) (fun j => wi_q (by omega)), if_pos rfl, mp_156, nu_bF c3, if_pos rfl, mp_150_6]
      exact ⟨rfl, S, rx_rf hr⟩
end OP
