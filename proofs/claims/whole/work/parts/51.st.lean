/-! A PLACE'S LAMP. -/
/-- lamp a at place i -/
def lxl_ (S : Nat → Nat → Nat → Nat) (i a : Nat) : Nat → Nat → Nat → Nat := cg_ (cg_ S 1 i 2 a) 1 i 3 0
/-- a laying of sort s after n places -/
def lzl_ (S : Nat → Nat → Nat → Nat) (set s : Nat) : Nat → Nat → Nat → Nat → Nat
  | 0 => S
  | n + 1 => lxl_ (lzl_ S set s n) n (if set.testBit n = true then s + 1 else 0)
section ST
variable {X : px_X} {S : Nat → Nat → Nat → Nat} {D : pu_D}
theorem lm_n {i a t : Nat} : lxl_ S i a 8 0 t = S 8 0 t := by unfold lxl_; rw [cg_o (by omega), cg_o (by omega)]
theorem wf_lm {i a : Nat} (hW : wf_ S) (ha : a ≤ S 8 0 0) : wf_ (lxl_ S i a) := wf_cgl (wf_cgl hW (Or.inl ⟨rfl, ha⟩)) (Or.inr ⟨rfl, Nat.zero_le _⟩)
theorem re_lm {b i a : Nat} (hC : re_C b S D) : re_C b (lxl_ S i a) (pu_wi (pu_wi D (b + 5) (i * 4 + 2) (nu_l a)) (b + 5) (i * 4 + 3) 0) := by
  have h1 := re_cg (t := 1) (i := i) (w := 2) (v := a) hC (by omega) (by omega)
  have h2 := re_cg (t := 1) (i := i) (w := 3) (v := 0) h1 (by omega) (by omega)
  have e : b + 3 + 2 * 1 = b + 5 := by omega
  rw [e] at h2
  exact h2
theorem rm_lm {i a : Nat} (hM : re_M S D) : re_M (lxl_ S i a) (pu_wi (pu_wi D 93 i (nu_l a)) 94 i 0) :=
  rm_cg (t := 1) (w := 3) (v := 0) (rm_cg (t := 1) (w := 2) (v := a) hM (by omega) (by decide)) (by omega) (by decide)
theorem sp_83p {i w : Nat} {v : Int32} {P : pu_D → Prop} (hW : wf_ S) (hC : re_C 1 S D) (hi : i < S 8 0 1) (hw : w < 4) : pu_V X 83 [.ref 5, .int (nu_i i), .int (nu_i w), .int v] D P = P (pu_wi D 6 (i * 4 + w) v) := by
  have hn := wf_n hW
  have := sp_83 (X := X) (v := v) (P := P) pu_c5 (re_n hC).2.1 (by rw [pu_r5_1, pu_ln6]; omega) (by omega) hi hw
  rw [pu_r5_1] at this; exact this
theorem sp_54 {i a : Nat} {P : pu_D → Prop} (hW : wf_ S) (hC : re_C 1 S D) (hi : i < S 8 0 1) (ha : a ≤ S 8 0 0) : pu_V X 54 [.ref 1, .int (nu_i i), .int (nu_l a)] D P = P (pu_wi (pu_wi D 6 (i * 4 + 2) (nu_l a)) 6 (i * 4 + 3) 0) := by
  refine pu_V_of (pu_e54 ?_) P
  refine (sp_83p (w := 2) (v := nu_l a) hW hC hi (by omega)).mpr ?_
  have hC1 : re_C 1 (cg_ S 1 i 2 a) (pu_wi D 6 (i * 4 + 2) (nu_l a)) := re_cg (b := 1) (t := 1) (i := i) (w := 2) (v := a) hC (by omega) (by omega)
  exact (sp_83p (S := cg_ S 1 i 2 a) (w := 3) (v := 0) (wf_cgl hW (Or.inl ⟨rfl, ha⟩)) hC1 (by rw [cg_o (by omega)]; exact hi) (by omega)).mpr rfl
theorem oq_104 (h : rel_ D) {x1 x2 : Int32} : op_ X D 104 [.ref 0, .int x1, .int x2] 196 [.ref 85, .int x1, .int x2] := by
  obtain ⟨S, hr⟩ := h
  obtain ⟨hW, hC, hM, -⟩ := id hr
  have hn := wf_n hW
  refine pu_e104 ?_
  rw [sp_81b hC]
  by_cases c1 : rg_ x1 (S 8 0 1)
  · obtain ⟨i, hi, rfl⟩ := rg_e (by omega) c1
    have go : ∀ a, a ≤ S 8 0 0 → pu_I X 82 [.ref 5, .int (nu_i i), .int 2] D (fun y7 D8 => pu_V X 54 [.ref 1, .int (nu_i i), .int (nu_l a)] D8 (fun D10 => (px_in (nu_i i) 9 = true) ∧ (px_in (nu_i i) 9 = true) ∧ (px_in (nu_i i) 9 = true) ∧ y7 = D10.1 93 (nu_i i).toNatClampNeg ∧ rel_ (pu_wi (pu_wi D10 93 (nu_i i).toNatClampNeg (nu_l a)) 94 (nu_i i).toNatClampNeg 0))) := by
      intro a ha
      have e := fun P => sp_82 (X := X) (D := D) (w := 2) (P := P) pu_c5 (re_n hC).2.1 (by rw [pu_r5_1, pu_ln6]; omega) (by omega) hi (by omega)
      refine (e _).mpr ?_
      rw [pu_r5_1, sp_54 hW hC hi ha, nu_in (by omega), nu_ix (by omega)]
      refine ⟨by omega, by omega, by omega, ?_, lxl_ S i a, rx_up hr (wf_lm hW ha) ?_ ?_ ?_⟩
      · rw [wi_q (by omega), wi_q (by omega)]
        exact ((hC.1 1 (by omega)).2.2 i hi 2 (by omega)).trans ((hM.1 1 (by omega)).2 2 (by decide) i hi).symm
      · exact re_Cag (re_lm (b := 1) (i := i) (a := a) hC) (ag_wi (Z := fun q _ => q = 93 ∨ q = 94) (ag_wi (ag_rf _) (Or.inl rfl)) (Or.inr rfl)) (fun q j z1 z2 z => by omega)
      · exact rm_lm (rm_ag hM (ag_wi (Z := fun q _ => q = 6) (ag_wi (ag_rf D) rfl) rfl) (fun q j z => by omega))
      · exact ag_wi (ag_wi (ag_wi (ag_wi (ag_rf D) (by unfold yy_; omega)) (by unfold yy_; omega)) (by unfold yy_; omega)) (by unfold yy_; omega)
    have e154 : ∀ D1 : pu_D, re_M S D1 → ∀ P, pu_I X 154 [.ref 85, .int (nu_i i)] D1 P = P 1 D1 := fun D1 hM1 P => by rw [mp_154 hM1, nu_bT c1]
    rw [nu_bT c1, if_neg (by decide)]
    have mem : ∀ (a : Nat), a ≤ S 8 0 0 → ∀ P Q : Int32 → pu_D → Prop, (∀ y D1, re_M S D1 → ((px_in (nu_i i) 9 = true) ∧ (px_in (nu_i i) 9 = true) ∧ (px_in (nu_i i) 9 = true) ∧ y = D1.1 93 (nu_i i).toNatClampNeg ∧ rel_ (pu_wi (pu_wi D1 93 (nu_i i).toNatClampNeg (nu_l a)) 94 (nu_i i).toNatClampNeg 0)) → Q y D1) → pu_I X 82 [.ref 5, .int (nu_i i), .int 2] D (fun y7 D8 => pu_V X 54 [.ref 1, .int (nu_i i), .int (nu_l a)] D8 (fun D10 => Q y7 D10)) := by
      intro a ha P Q hQ
      have g := go a ha
      have e := fun P => sp_82 (X := X) (D := D) (w := 2) (P := P) pu_c5 (re_n hC).2.1 (by rw [pu_r5_1, pu_ln6]; omega) (by omega) hi (by omega)
      have g2 := (e _).mp g
      refine (e _).mpr ?_
      rw [pu_r5_1, sp_54 hW hC hi ha] at g2 ⊢
      exact hQ _ _ (rm_ag hM (ag_wi (Z := fun q _ => q = 6) (ag_wi (ag_rf D) rfl) rfl) (fun q j z => by omega)) g2
    by_cases c2 : x2 = -1
    · subst c2
      rw [if_pos rfl]
      refine mem 0 (Nat.zero_le _) (fun _ _ => True) (fun y D1 => pu_I X 196 [.ref 85, .int (nu_i i), .int (-1)] D1 (fun y2 D2 => y = y2 ∧ rel_ D2)) fun y D1 hM1 ⟨g1, g2, g3, g4, g5⟩ => ?_
      refine pu_e196 ?_
      rw [e154 D1 hM1, if_neg (by decide), if_pos rfl]
      exact ⟨g1, g2, g3, g4, g5⟩
    · rw [if_neg c2, sp_81a hC]
      by_cases c3 : rg_ x2 (S 8 0 0)
      · rw [nu_bT c3, if_neg (by decide)]
        obtain ⟨s, hs, rfl⟩ := rg_e (by omega) c3
        refine mem (s + 1) (by omega) (fun _ _ => True) (fun y D1 => pu_I X 196 [.ref 85, .int (nu_i i), .int (nu_i s)] D1 (fun y2 D2 => y = y2 ∧ rel_ D2)) fun y D1 hM1 ⟨g1, g2, g3, g4, g5⟩ => ?_
        refine pu_e196 ?_
        rw [e154 D1 hM1, if_neg (by decide), if_neg c2, mp_153 hM1, nu_bT c3, if_neg (by decide)]
        exact ⟨g1, g2, g3, g4, g5⟩
      · rw [nu_bF c3, if_pos rfl, sp_131_1]
        refine pu_e196 ?_
        rw [e154 _ (rm_rf hM), if_neg (by decide), if_neg c2, mp_153 (rm_rf hM), nu_bF c3, if_pos rfl, mp_150_1]
        exact ⟨rfl, S, rx_rf hr⟩
  · rw [nu_bF c1, if_pos rfl, sp_131_1]
    refine pu_e196 ?_
    rw [mp_154 (rm_rf hM), nu_bF c1, if_pos rfl, mp_150_1]
    exact ⟨rfl, S, rx_rf hr⟩
end ST
