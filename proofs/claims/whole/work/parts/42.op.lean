/-! CALLS THAT ASK FOR LIGHT. -/
section OP
variable {X : px_X} {S : Nat → Nat → Nat → Nat} {D : pu_D}
theorem sp_134 {x r l y3 : Int32} {c1 : Prop} [Decidable c1] {P : Int32 → pu_D → Prop} (ab : ab_ X D x r l) : pu_I X 134 [.ref 0, .int x, .int (nu_b c1), .int y3] D P = P (if c1 then (if l = 0 then (if y3 = 0 then -6 else 0) else l) else -1) D := by
  refine pu_I_of (pu_e134 ?_) P
  simp only [nu_b0]
  by_cases h1 : c1
  · rw [if_neg (by simpa using h1), ab.2.1]
    simp only [h1, if_true]
    by_cases h2 : l = 0
    · rw [if_pos h2, if_pos h2]
      by_cases h3 : y3 = 0
      · rw [if_pos h3, if_pos h3]; exact ⟨by trivial, by trivial⟩
      · rw [if_neg h3, if_neg h3]; exact ⟨by trivial, by trivial⟩
    · rw [if_neg h2, if_neg h2]; exact ⟨by trivial, by trivial⟩
  · rw [if_pos h1]
    simp only [h1, if_false]; exact ⟨by trivial, by trivial⟩
theorem sp_134o {x r l y3 : Int32} {P : Int32 → pu_D → Prop} (ab : ab_ X D x r l) : pu_I X 134 [.ref 0, .int x, .int 1, .int y3] D P = P (if l = 0 then (if y3 = 0 then -6 else 0) else l) D := by
  have := sp_134 (y3 := y3) (c1 := True) (P := P) ab
  rw [nu_bT trivial] at this
  simpa using this
theorem sp_44 {q k a w h : Nat} {P : Int32 → pu_D → Prop} (hq : pu_cl q = 3) (hl : ly_ D q k a w) (hh : h < 12) : pu_I X 44 [.ref q, .int (nu_i h)] D P = P (nu_b (hb_ k a h = true)) D := by
  obtain ⟨l1, l3, l4, hk, ha, hw, ha2⟩ := hl
  refine pu_I_of (pu_e44 hq ?_) P
  rw [l1, l3]
  simp (disch := omega) only [nu_eqn, nu_lt]
  by_cases h4 : k = 4
  · rw [if_pos h4]
    by_cases h5 : h < a
    · rw [if_pos h5, nu_bF (by simp [hb_, h5])]; exact ⟨rfl, by trivial⟩
    · rw [if_neg h5, nu_bT (by simp [hb_, h4, h5])]; exact ⟨rfl, by trivial⟩
  · rw [if_neg h4, nu_bF (by simp [hb_, h4])]; exact ⟨rfl, by trivial⟩
/-- light by a laying -/
def lt_ (S : Nat → Nat → Nat → Nat) (k a w q m h : Nat) : Nat := li_ S (bn_ S k a w) (hb_ k a h) q m + sh_ S q h
theorem lt_le (hW : wf_ S) {k a w q m h : Nat} (ha2 : (k = 1 ∨ k = 3) → a < 2) : lt_ S k a w q m h ≤ 900000 := by
  have b1 := li_le hW (set := bn_ S k a w) (h := hb_ k a h) (q := q) (m := m) (sl_bn hW ha2).2
  have b2 := sh_le hW (q := q) (h := h)
  unfold lt_; omega
theorem bn_w {k a w v : Nat} (h : k = 5 → v = w) : bn_ S k a v = bn_ S k a w := by
  unfold bn_
  by_cases h5 : k = 5
  · rw [h h5]
  · rw [if_neg h5, if_neg h5]
theorem sp_136 (hC : re_C 1 S D) (hW : wf_ S) {qs k a w q m h : Nat} {P : Int32 → pu_D → Prop} (hq : pu_cl qs = 3) (hl : ly_ D qs k a w) (hq2 : q < 120) (hm : m < 12) (hh : h < 12) : pu_I X 136 [.ref 0, .ref qs, .int (nu_i q), .int (nu_i m), .int (nu_i h)] D P = P (nu_i (lt_ S k a w q m h)) D := by
  refine pu_I_of (pu_e136 hq ?_) P
  rw [sp_57 hC hW hq hl, sp_44 hq hl hh, sp_64 hC hW (sl_bn hW hl.2.2.2.2.2.2) hq2 hm, sp_68 hC hW hq2 hh, nu_add]
  exact ⟨rfl, rfl⟩
theorem mp_207 (hM : re_M S D) (hW : wf_ S) {n k a w v q m h : Nat} {P : Int32 → pu_D → Prop} (hn : n < 8) (hl : la_ D n k a w v) (hq2 : q < 120) (hm : m < 12) (hh : h < 12) : pu_I X 207 [.ref 85, .int (nu_i n), .int (nu_i q), .int (nu_i m), .int (nu_i h)] D P = P (nu_i (lt_ S k a w q m h)) D := by
  obtain ⟨⟨l1, l3, l4, hk, ha, hw, ha2⟩, h2, h3, h4, h5, h6, h7⟩ := hl
  refine pu_I_of (pu_e207 ?_) P
  simp (disch := omega) only [nu_in, nu_ix, h5, h6, h7]
  refine ⟨hn, hn, hn, ?_⟩
  rw [mp_206 hM hW hk ha h2 ha2 hq2 hm hh, bn_w h3]
  exact ⟨rfl, rfl⟩
theorem sp_137 (hC : re_C 1 S D) (hW : wf_ S) {qs k a w m h : Nat} {P : Int32 → pu_D → Prop} (hq : pu_cl qs = 3) (hl : ly_ D qs k a w) (hm : m < 12) (hh : h < 12) (hP : ∀ D', ag_ (fun q _ => 52 ≤ q ∧ q ≤ 55) D D' → lp_ S 52 D' → ll_ S 52 (fun j => lt_ S k a w j m h) D' → P (nu_i (ru_ S (fun j => lt_ S k a w j m h))) D') : pu_I X 137 [.ref 0, .ref qs, .int (nu_i m), .int (nu_i h)] D P := by
  refine pu_e137 hq ?_
  rw [sp_57 hC hW hq hl, sp_44 hq hl hh]
  refine sp_21 hC hW (sl_bn hW hl.2.2.2.2.2.2) hm fun D1 a1 p1 h54 => ?_
  have hC1 := re_Z hC a1 (fun q j hz => by omega)
  refine sp_22 hC1 hW (h := hb_ k a h) (set := bn_ S k a w) (m := m) (sl_bn hW hl.2.2.2.2.2.2) hh p1 h54 fun D2 a2 p2 l2 => ?_
  have hC2 := re_Z hC1 a2 (fun q j hz => by omega)
  rw [sp_23 hC2 hW (Or.inl rfl) p2 l2]
  exact hP D2 (ag_tr (ag_mo a1 fun q j hz => by omega) (ag_mo a2 fun q j hz => by omega)) p2 l2
theorem oq_106 (h : rel_ D) {x1 x2 x3 x4 : Int32} : op_ X D 106 [.ref 0, .int x1, .int x2, .int x3, .int x4] 208 [.ref 85, .int x1, .int x2, .int x3, .int x4] := by
  obtain ⟨S, hr⟩ := h
  have hr2 := hr
  obtain ⟨hW, hC, hM, -, -, hS, -⟩ := hr2
  refine pu_e106 ?_
  simp only [sp_139, sp_140b, sp_141, nu_b0]
  rcases sh_cases hS X x1 with ⟨c8, ab⟩ | ⟨n, hn, rfl, ⟨h0, ab⟩ | ⟨so, sz, h0, ab⟩ | ⟨k, a, w, v, h0, ab⟩⟩
  · have e : ∀ y3 P, pu_I X 134 [.ref 0, .int x1, .int (nu_b (rg_ x2 120)), .int y3] D P = P (-1) D := fun y3 P => by rw [sp_134 ab, if_neg (show ¬ (-1 : Int32) = 0 by decide), ite_self]
    simp (decide := true) only [e, if_false, ite_self, sp_130_1]
    refine pu_e208 ?_
    rw [mp_151, nu_bF c8, if_pos rfl, mp_149_1]
    exact ⟨rfl, S, rx_rf hr⟩
  · have ab3 := fun D1 hD1 => (ab.2.2 D1 hD1).2
    have e8 := rg_i (n := 8) (by omega) hn
    by_cases c2 : rg_ x2 120
    · have e : ∀ y3 P, pu_I X 134 [.ref 0, .int (nu_i n), .int (nu_b (rg_ x2 120)), .int y3] D P = P (-3) D := fun y3 P => by rw [sp_134 ab, if_pos c2, if_neg (show ¬ (-3 : Int32) = 0 by decide)]
      simp (decide := true) only [e, if_false, ite_self, sp_130_3]
      refine pu_e208 ?_
      rw [mp_151, nu_bT e8, if_neg (by decide), mp_152, nu_bT c2, if_neg (by decide), ab3 (rf_ D 3) (fun j => wi_q (by omega)), if_neg (by decide), mp_149_3]
      exact ⟨rfl, S, rx_rf hr⟩
    · have e : ∀ y3 P, pu_I X 134 [.ref 0, .int (nu_i n), .int (nu_b (rg_ x2 120)), .int y3] D P = P (-1) D := fun y3 P => by rw [sp_134 ab, if_neg c2]
      simp (decide := true) only [e, if_false, ite_self, sp_130_1]
      refine pu_e208 ?_
      rw [mp_151, nu_bT e8, if_neg (by decide), mp_152, nu_bF c2, if_pos rfl, mp_149_1]
      exact ⟨rfl, S, rx_rf hr⟩
  · have ab3 := fun D1 hD1 => (ab.2.2 D1 hD1).2
    have e8 := rg_i (n := 8) (by omega) hn
    by_cases c2 : rg_ x2 120
    · have e : ∀ y3 P, pu_I X 134 [.ref 0, .int (nu_i n), .int (nu_b (rg_ x2 120)), .int y3] D P = P (-2) D := fun y3 P => by rw [sp_134 ab, if_pos c2, if_neg (show ¬ (-2 : Int32) = 0 by decide)]
      simp (decide := true) only [e, if_false, ite_self, sp_130_2]
      refine pu_e208 ?_
      rw [mp_151, nu_bT e8, if_neg (by decide), mp_152, nu_bT c2, if_neg (by decide), ab3 (rf_ D 2) (fun j => wi_q (by omega)), if_neg (by decide), mp_149_2]
      exact ⟨rfl, S, rx_rf hr⟩
    · have e : ∀ y3 P, pu_I X 134 [.ref 0, .int (nu_i n), .int (nu_b (rg_ x2 120)), .int y3] D P = P (-1) D := fun y3 P => by rw [sp_134 ab, if_neg c2]
      simp (decide := true) only [e, if_false, ite_self, sp_130_1]
      refine pu_e208 ?_
      rw [mp_151, nu_bT e8, if_neg (by decide), mp_152, nu_bF c2, if_pos rfl, mp_149_1]
      exact ⟨rfl, S, rx_rf hr⟩
  · have ab3 := fun D1 hD1 => (ab.2.2 D1 hD1).2
    have e8 := rg_i (n := 8) (by omega) hn
    obtain ⟨s1, s2, s3⟩ := sv_ hn
    by_cases c2 : rg_ x2 120
    · have e : ∀ y3 P, pu_I X 134 [.ref 0, .int (nu_i n), .int (nu_b (rg_ x2 120)), .int y3] D P = P (if y3 = 0 then -6 else 0) D := fun y3 P => by rw [sp_134 ab, if_pos c2, if_pos rfl]
      by_cases c3 : rg_ x3 12
      · by_cases c4 : rg_ x4 12
        · rw [if_neg (show ¬ ¬ rg_ x3 12 from fun z => z c3), if_neg (show ¬ ¬ rg_ x4 12 from fun z => z c4), e, if_pos (show (if (1 : Int32) = 0 then (-6 : Int32) else 0) = 0 by decide)]
          obtain ⟨q, hq, rfl⟩ := rg_e (by omega) c2
          obtain ⟨m, hm, rfl⟩ := rg_e (by omega) c3
          obtain ⟨hh, hh2, rfl⟩ := rg_e (by omega) c4
          refine ⟨by rw [nu_in (by omega)]; exact hn, ?_⟩
          rw [nu_ix (by omega), s1, sp_136 hC hW s2 h0.1 hq hm hh2]
          refine pu_e208 ?_
          rw [mp_151, nu_bT e8, if_neg (by decide), mp_152, nu_bT c2, if_neg (by decide), ab3 D (fun j => rfl), if_pos rfl, mp_156, nu_bT c3, if_neg (by decide), mp_156, nu_bT c4, if_neg (by decide), mp_207 hM hW hn h0 hq hm hh2]
          exact ⟨rfl, S, hr⟩
        · rw [if_neg (show ¬ ¬ rg_ x3 12 from fun z => z c3), if_pos c4, e, if_pos rfl, if_neg (by decide), sp_130_6]
          refine pu_e208 ?_
          rw [mp_151, nu_bT e8, if_neg (by decide), mp_152, nu_bT c2, if_neg (by decide), ab3 (rf_ D 6) (fun j => wi_q (by omega)), if_pos rfl, mp_156, nu_bT c3, if_neg (by decide), mp_156, nu_bF c4, if_pos rfl, mp_149_6]
          exact ⟨rfl, S, rx_rf hr⟩
      · rw [if_pos c3, e, if_pos rfl, if_neg (by decide), sp_130_6]
        refine pu_e208 ?_
        rw [mp_151, nu_bT e8, if_neg (by decide), mp_152, nu_bT c2, if_neg (by decide), ab3 (rf_ D 6) (fun j => wi_q (by omega)), if_pos rfl, mp_156, nu_bF c3, if_pos rfl, mp_149_6]
        exact ⟨rfl, S, rx_rf hr⟩
    · have e : ∀ y3 P, pu_I X 134 [.ref 0, .int (nu_i n), .int (nu_b (rg_ x2 120)), .int y3] D P = P (-1) D := fun y3 P => by rw [sp_134 ab, if_neg c2]
      simp (decide := true) only [e, if_false, ite_self, sp_130_1]
      refine pu_e208 ?_
      rw [mp_151, nu_bT e8, if_neg (by decide), mp_152, nu_bF c2, if_pos rfl, mp_149_1]
      exact ⟨rfl, S, rx_rf hr⟩
end OP
