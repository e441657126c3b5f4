/-! ONE MORE: place, tree, wall, pool, shop; and what is asked. -/
section ST
variable {X : px_X} {S : Nat → Nat → Nat → Nat} {D : pu_D}
theorem oq_95 (h : rel_ D) {x1 x2 : Int32} : op_ X D 95 [.ref 0, .int x1, .int x2] 172 [.ref 85, .int x1, .int x2] := by
  obtain ⟨S, hr⟩ := h
  obtain ⟨hW, hC, hM, -⟩ := id hr
  refine pu_e95 ?_
  have e1 : ∀ v P, pu_I X 145 [.int 5, .int 1, .int v] D P = P (nu_b (rb_ v 0 99)) D := fun v P => sp_145 (t := 5) (k := 1) (by omega) (by omega)
  have e8 : ∀ P, pu_I X 80 [.ref 5] D P = P (nu_b (S 8 0 1 = 9)) D := fun P => sp_80t (t := 1) hW hC (by omega)
  simp only [sp_139, e1, e8, nu_b0, sp_130_6, sp_130_7, sp_130_1]
  by_cases c1 : rg_ x1 120
  · rw [if_neg (show ¬ ¬ rg_ x1 120 from fun z => z c1)]
    by_cases c2 : rb_ x2 0 99
    · rw [if_neg (show ¬ ¬ rb_ x2 0 99 from fun z => z c2)]
      by_cases hf : S 8 0 1 = 9
      · rw [if_neg (show ¬ ¬ S 8 0 1 = 9 from fun z => z hf)]
        refine pu_e172 ?_
        rw [mp_152, nu_bT c1, if_neg (by decide), if_neg (show ¬ x2 < 0 from c2.1), if_neg (show ¬ 99 < x2 from c2.2), rf_85, (rm_n hM).2.1, hf, if_pos (show nu_i 9 = (9 : Int32) from rfl), mp_149_7]
        exact ⟨rfl, S, rx_rf hr⟩
      · rw [if_pos hf]
        have hlt : S 8 0 1 < 9 := by have : S 8 0 1 ≤ 9 := hW.1 1 (by omega); omega
        obtain ⟨a1, b1, rfl⟩ := rg_e (by omega) c1
        obtain ⟨a2, b3, b4, rfl⟩ := rb_e (by omega) (by omega) c2
        refine sp_84 (b := 1) (t := 1) (Or.inl rfl) (by omega) hC hlt fun D1 hc => ?_
        have e85 : D1.1 85 1 = nu_i (S 8 0 1) := by rw [hc.2.2.1 _ _ (by omega)]; exact (rm_n hM).2.1
        refine pu_e172 ?_
        rw [mp_152, nu_bT c1, if_neg (by decide), if_neg (show ¬ nu_i a2 < 0 from c2.1), if_neg (show ¬ 99 < nu_i a2 from c2.2), if_neg (show ¬ D1.1 85 1 = 9 by rw [e85, show (9 : Int32) = nu_i 9 from rfl, nu_eq (by omega) (by omega)]; exact hf)]
        refine mp_171 e85 hlt fun D2 hm => ⟨rfl, _, rx_add (r := r4_ a1 a2 0 0) hr (by omega) hlt ?_ (vv_4 rfl rfl rfl rfl) (vv_4 rfl rfl rfl rfl) hc hm⟩
        exact ⟨fun z => by omega, fun _ => ⟨b1, b4, Nat.zero_le _, Nat.zero_le _⟩, fun z => by omega, fun z => by omega, fun z => by omega⟩
    · rw [if_pos c2]
      refine pu_e172 ?_
      rw [mp_152, nu_bT c1, if_neg (by decide)]
      by_cases c3 : x2 < 0
      · rw [if_pos c3, mp_149_6]; exact ⟨rfl, S, rx_rf hr⟩
      · rw [if_neg c3]
        by_cases c4 : 99 < x2
        · rw [if_pos c4, mp_149_6]; exact ⟨rfl, S, rx_rf hr⟩
        · exact absurd ⟨c3, c4⟩ c2
  · rw [if_pos c1]
    refine pu_e172 ?_
    rw [mp_152, nu_bF c1, if_pos rfl, mp_149_1]
    exact ⟨rfl, S, rx_rf hr⟩
theorem oq_98 (h : rel_ D) {x1 x2 x3 : Int32} : op_ X D 98 [.ref 0, .int x1, .int x2, .int x3] 179 [.ref 85, .int x1, .int x2, .int x3] := by
  obtain ⟨S, hr⟩ := h
  obtain ⟨hW, hC, hM, -⟩ := id hr
  refine pu_e98 ?_
  have e1 : ∀ v P, pu_I X 145 [.int 9, .int 1, .int v] D P = P (nu_b (rb_ v 1 999)) D := fun v P => sp_145 (t := 9) (k := 1) (by omega) (by omega)
  have e2 : ∀ v P, pu_I X 145 [.int 9, .int 2, .int v] D P = P (nu_b (rb_ v 0 11)) D := fun v P => sp_145 (t := 9) (k := 2) (by omega) (by omega)
  have e8 : ∀ P, pu_I X 80 [.ref 13] D P = P (nu_b (S 8 0 5 = 8)) D := fun P => sp_80t (t := 5) hW hC (by omega)
  have er : rb_ x3 0 11 ↔ rg_ x3 12 := by
    constructor
    · intro c
      obtain ⟨a, b1, b2, rfl⟩ := rb_e (by omega) (by omega) c
      exact rg_i (by omega) (by omega)
    · intro c
      obtain ⟨a, b1, rfl⟩ := rg_e (by omega) c
      exact rb_i (by omega) (by omega) (by omega)
  simp only [sp_139, e1, e2, e8, nu_b0, sp_130_6, sp_130_7, sp_130_1]
  by_cases c1 : rg_ x1 120
  · rw [if_neg (show ¬ ¬ rg_ x1 120 from fun z => z c1)]
    by_cases c2 : rb_ x2 1 999
    · rw [if_neg (show ¬ ¬ rb_ x2 1 999 from fun z => z c2)]
      by_cases c3 : rb_ x3 0 11
      · rw [if_neg (show ¬ ¬ rb_ x3 0 11 from fun z => z c3)]
        by_cases hf : S 8 0 5 = 8
        · rw [if_neg (show ¬ ¬ S 8 0 5 = 8 from fun z => z hf)]
          refine pu_e179 ?_
          rw [mp_152, nu_bT c1, if_neg (by decide), if_neg (show ¬ x2 < 1 from c2.1), if_neg (show ¬ 999 < x2 from c2.2), mp_156, nu_bT (er.mp c3), if_neg (by decide), rf_85, (rm_n hM).2.2.2.2.2.1, hf, if_pos (show nu_i 8 = (8 : Int32) from rfl), mp_149_7]
          exact ⟨rfl, S, rx_rf hr⟩
        · rw [if_pos hf]
          have hlt : S 8 0 5 < 8 := by have : S 8 0 5 ≤ 8 := hW.1 5 (by omega); omega
          have c3' := er.mp c3
          obtain ⟨a1, b1, rfl⟩ := rg_e (by omega) c1
          obtain ⟨a2, b3, b4, rfl⟩ := rb_e (by omega) (by omega) c2
          obtain ⟨a3, b5, b6, rfl⟩ := rb_e (by omega) (by omega) c3
          refine sp_84 (b := 1) (t := 5) (Or.inl rfl) (by omega) hC hlt fun D1 hc => ?_
          have e85 : D1.1 85 5 = nu_i (S 8 0 5) := by rw [hc.2.2.1 _ _ (by omega)]; exact (rm_n hM).2.2.2.2.2.1
          refine pu_e179 ?_
          rw [mp_152, nu_bT c1, if_neg (by decide), if_neg (show ¬ nu_i a2 < 1 from c2.1), if_neg (show ¬ 999 < nu_i a2 from c2.2), mp_156, nu_bT c3', if_neg (by decide), if_neg (show ¬ D1.1 85 5 = 8 by rw [e85, show (8 : Int32) = nu_i 8 from rfl, nu_eq (by omega) (by omega)]; exact hf)]
          refine mp_178 e85 hlt fun D2 hm => ⟨rfl, _, rx_add (r := r4_ a1 a2 a3 0) hr (by omega) hlt ?_ (vv_4 rfl rfl rfl rfl) (fun w hw => ?_) hc hm⟩
          · exact ⟨fun z => by omega, fun z => by omega, fun _ => b1, fun z => by omega, fun _ => ⟨⟨b3, b4⟩, b6⟩⟩
          · have hw2 : w < 3 := hw
            rcases (show w = 0 ∨ w = 1 ∨ w = 2 by omega) with rfl | rfl | rfl <;> rfl
      · rw [if_pos c3]
        refine pu_e179 ?_
        rw [mp_152, nu_bT c1, if_neg (by decide), if_neg (show ¬ x2 < 1 from c2.1), if_neg (show ¬ 999 < x2 from c2.2), mp_156, nu_bF (fun z => c3 (er.mpr z)), if_pos rfl, mp_149_6]
        exact ⟨rfl, S, rx_rf hr⟩
    · rw [if_pos c2]
      refine pu_e179 ?_
      rw [mp_152, nu_bT c1, if_neg (by decide)]
      by_cases c3 : x2 < 1
      · rw [if_pos c3, mp_149_6]; exact ⟨rfl, S, rx_rf hr⟩
      · rw [if_neg c3]
        by_cases c4 : 999 < x2
        · rw [if_pos c4, mp_149_6]; exact ⟨rfl, S, rx_rf hr⟩
        · exact absurd ⟨c3, c4⟩ c2
  · rw [if_pos c1]
    refine pu_e179 ?_
    rw [mp_152, nu_bF c1, if_pos rfl, mp_149_1]
    exact ⟨rfl, S, rx_rf hr⟩
/-- kind k stands in table t -/
theorem oq_96k (hr : rx_ S D) {k t : Nat} (hk : (k = 0 ∧ t = 2) ∨ (k = 1 ∧ t = 3) ∨ (k = 2 ∧ t = 6)) {a : Nat} (ha : a < 120) (hm173 : ∀ (D1 : pu_D) P, D1.1 85 t = nu_i (S 8 0 t) → pu_I X 173 [.ref 85, .int (nu_i k)] D1 P = P (nu_b (S 8 0 t = mo_ t)) D1) : pu_I X 80 [.ref (1 + 2 + 2 * t)] D (fun y12 D13 => if y12 = 0 then (pu_I X 84 [.ref (1 + 2 + 2 * t), .int (nu_i a), .int 0, .int 0, .int 0] D13 (fun y15 D16 => pu_I X 175 [.ref 85, .int (nu_i k), .int (nu_i a)] D16 (fun y2 D2 => y15 + 1 = y2 ∧ rel_ D2))) else (pu_I X 130 [.ref 0, .int (-7)] D13 (fun y17 D18 => pu_I X 175 [.ref 85, .int (nu_i k), .int (nu_i a)] D18 (fun y2 D2 => y17 = y2 ∧ rel_ D2)))) := by
  obtain ⟨hW, hC, hM, -⟩ := id hr
  have ht : t < 7 := by omega
  have h0 : ¬ nu_i k < 0 := by rw [nu_lt0 (by omega)]; exact fun z => z
  have h2 : ¬ 2 < nu_i k := by rw [nu_nlt (by omega) (by omega)]; show ¬ 2 < k; omega
  have c1 : rg_ (nu_i a) 120 := rg_i (by omega) ha
  have he := (hM.1 t ht).1
  rw [sp_80t hW hC ht]
  by_cases hf : S 8 0 t = mo_ t
  · rw [nu_bT hf, if_neg (by decide), sp_130_7]
    refine pu_e175 ?_
    rw [if_neg h0, if_neg h2, mp_152, nu_bT c1, if_neg (by decide), hm173 _ _ (by rw [rf_85]; exact he), nu_bT hf, if_neg (by decide), mp_149_7]
    exact ⟨rfl, S, rx_rf hr⟩
  · rw [nu_bF hf, if_pos rfl]
    have hlt : S 8 0 t < mo_ t := by have := hW.1 t ht; omega
    refine sp_84 (b := 1) (t := t) (Or.inl rfl) ht hC hlt fun D1 hc => ?_
    have e85 : D1.1 85 t = nu_i (S 8 0 t) := by rw [hc.2.2.1 _ _ (by omega)]; exact he
    refine pu_e175 ?_
    rw [if_neg h0, if_neg h2, mp_152, nu_bT c1, if_neg (by decide), hm173 _ _ e85, nu_bF hf, if_pos rfl]
    have hne : t ≠ 1 := by omega
    have hen : ∀ w x, en_ t w x = nu_i x := fun w x => by unfold en_; rw [if_neg (by omega)]
    refine mp_174 hk e85 hlt fun D2 hm => ⟨nu_addn .., _, rx_add (r := r4_ a 0 0 0) hr ht hlt ?_ (vv_4 (hen ..).symm (hen ..).symm (hen ..).symm (hen ..).symm) (fun w hw => ?_) hc hm⟩
    · exact ⟨fun z => by omega, fun z => by omega, fun _ => ha, fun z => by omega, fun z => by omega⟩
    · have hw1 : w = 0 := by
        rcases hk with ⟨-, rfl⟩ | ⟨-, rfl⟩ | ⟨-, rfl⟩ <;> (have hw1 : w < 1 := hw; omega)
      subst hw1; exact (hen ..).symm
theorem oq_96 (h : rel_ D) {x1 x2 : Int32} : op_ X D 96 [.ref 0, .int x1, .int x2] 175 [.ref 85, .int x1, .int x2] := by
  obtain ⟨S, hr⟩ := h
  refine pu_e96 ?_
  simp only [sp_139, sp_130_1]
  by_cases h1 : x1 < 0
  · rw [if_pos h1]
    refine pu_e175 ?_
    rw [if_pos h1, mp_149_1]; exact ⟨rfl, S, rx_rf hr⟩
  rw [if_neg h1]
  by_cases h2 : 2 < x1
  · rw [if_pos h2]
    refine pu_e175 ?_
    rw [if_neg h1, if_pos h2, mp_149_1]; exact ⟨rfl, S, rx_rf hr⟩
  rw [if_neg h2]
  by_cases c1 : rg_ x2 120
  · rw [nu_bT c1, if_neg (by decide)]
    obtain ⟨a, ha, rfl⟩ := rg_e (by omega) c1
    obtain ⟨k, -, hk, rfl⟩ := rb_e (lo := 0) (hi := 2) (by omega) (by omega) ⟨h1, h2⟩
    rcases (show k = 0 ∨ k = 1 ∨ k = 2 by omega) with rfl | rfl | rfl
    · rw [if_pos (show nu_i 0 = (0 : Int32) from rfl)]
      refine oq_96k (k := 0) (t := 2) hr (by omega) ha fun D1 P e => pu_I_of (pu_e173 ?_) P
      rw [if_pos (show nu_i 0 = (0 : Int32) from rfl), e]
      by_cases hf : S 8 0 2 = 12
      · rw [hf, if_pos (by decide), nu_bT (show 12 = mo_ 2 from rfl)]; exact ⟨rfl, by trivial⟩
      · rw [if_neg (show ¬ nu_i (S 8 0 2) = 12 by rw [show (12 : Int32) = nu_i 12 from rfl, nu_eq (by have := wf_n (And.left hr); omega) (by omega)]; exact hf), nu_bF (show ¬ S 8 0 2 = mo_ 2 from hf)]; exact ⟨rfl, by trivial⟩
    · rw [if_neg (show ¬ nu_i 1 = (0 : Int32) by decide), if_pos (show nu_i 1 = (1 : Int32) from rfl)]
      refine oq_96k (k := 1) (t := 3) hr (by omega) ha fun D1 P e => pu_I_of (pu_e173 ?_) P
      rw [if_neg (show ¬ nu_i 1 = (0 : Int32) by decide), if_pos (show nu_i 1 = (1 : Int32) from rfl), e]
      by_cases hf : S 8 0 3 = 12
      · rw [hf, if_pos (by decide), nu_bT (show 12 = mo_ 3 from rfl)]; exact ⟨rfl, by trivial⟩
      · rw [if_neg (show ¬ nu_i (S 8 0 3) = 12 by rw [show (12 : Int32) = nu_i 12 from rfl, nu_eq (by have := wf_n (And.left hr); omega) (by omega)]; exact hf), nu_bF (show ¬ S 8 0 3 = mo_ 3 from hf)]; exact ⟨rfl, by trivial⟩
    · rw [if_neg (show ¬ nu_i 2 = (0 : Int32) by decide), if_neg (show ¬ nu_i 2 = (1 : Int32) by decide)]
      refine oq_96k (k := 2) (t := 6) hr (by omega) ha fun D1 P e => pu_I_of (pu_e173 ?_) P
      rw [if_neg (show ¬ nu_i 2 = (0 : Int32) by decide), if_neg (show ¬ nu_i 2 = (1 : Int32) by decide), e]
      by_cases hf : S 8 0 6 = 6
      · rw [hf, if_pos (by decide), nu_bT (show 6 = mo_ 6 from rfl)]; exact ⟨rfl, by trivial⟩
      · rw [if_neg (show ¬ nu_i (S 8 0 6) = 6 by rw [show (6 : Int32) = nu_i 6 from rfl, nu_eq (by have := wf_n (And.left hr); omega) (by omega)]; exact hf), nu_bF (show ¬ S 8 0 6 = mo_ 6 from hf)]; exact ⟨rfl, by trivial⟩
  · rw [nu_bF c1, if_pos rfl]
    refine pu_e175 ?_
    rw [if_neg h1, if_neg h2, mp_152, nu_bF c1, if_pos rfl, mp_149_1]
    exact ⟨rfl, S, rx_rf hr⟩
end ST
