/-! ONE MORE: sort, place, tree, wall, pool, window, shop; and what is asked. -/
section ST
variable {X : px_X} {S : Nat → Nat → Nat → Nat} {D : pu_D}
theorem sp_80t {t : Nat} {P : Int32 → pu_D → Prop} (hW : wf_ S) (hC : re_C 1 S D) (ht : t < 7) : pu_I X 80 [.ref (1 + 2 + 2 * t)] D P = P (nu_b (S 8 0 t = mo_ t)) D := by
  obtain ⟨hc, hmo, -⟩ := hC.1 t ht
  have := mo_le ht
  exact sp_80 (tq_ (Or.inl rfl) ht).1 hc hmo (hW.1 t ht) (by omega)
theorem mp_168 {x1 x2 x3 x4 : Int32} {P : Int32 → pu_D → Prop} : pu_I X 168 [.ref 85, .int x1, .int x2, .int x3, .int x4] D P = P (nu_b (rb_ x1 1 12 ∧ rb_ x2 1 99 ∧ rb_ x3 0 99 ∧ rb_ x4 1 99)) D := by
  refine pu_I_of (pu_e168 ?_) P
  by_cases h1 : x1 < 1
  · rw [if_pos h1, nu_bF (fun z => z.1.1 h1)]; exact ⟨rfl, by trivial⟩
  rw [if_neg h1]
  by_cases h2 : 12 < x1
  · rw [if_pos h2, nu_bF (fun z => z.1.2 h2)]; exact ⟨rfl, by trivial⟩
  rw [if_neg h2]
  by_cases h3 : x2 < 1
  · rw [if_pos h3, nu_bF (fun z => z.2.1.1 h3)]; exact ⟨rfl, by trivial⟩
  rw [if_neg h3]
  by_cases h4 : 99 < x2
  · rw [if_pos h4, nu_bF (fun z => z.2.1.2 h4)]; exact ⟨rfl, by trivial⟩
  rw [if_neg h4]
  by_cases h5 : x3 < 0
  · rw [if_pos h5, nu_bF (fun z => z.2.2.1.1 h5)]; exact ⟨rfl, by trivial⟩
  rw [if_neg h5]
  by_cases h6 : 99 < x3
  · rw [if_pos h6, nu_bF (fun z => z.2.2.1.2 h6)]; exact ⟨rfl, by trivial⟩
  rw [if_neg h6]
  by_cases h7 : x4 < 1
  · rw [if_pos h7, nu_bF (fun z => z.2.2.2.1 h7)]; exact ⟨rfl, by trivial⟩
  rw [if_neg h7]
  by_cases h8 : 99 < x4
  · rw [if_pos h8, nu_bF (fun z => z.2.2.2.2 h8)]; exact ⟨rfl, by trivial⟩
  rw [if_neg h8, nu_bT ⟨⟨h1, h2⟩, ⟨h3, h4⟩, ⟨h5, h6⟩, h7, h8⟩]; exact ⟨rfl, by trivial⟩
theorem rf_85 {k j : Nat} : (rf_ D k).1 85 j = D.1 85 j := wi_q (by omega)
def r4_ (a b c d : Nat) : Nat → Nat := fun w => if w = 0 then a else if w = 1 then b else if w = 2 then c else d
theorem vv_4 {f : Nat → Int32} {g : Nat → Int32} (h0 : f 0 = g 0) (h1 : f 1 = g 1) (h2 : f 2 = g 2) (h3 : f 3 = g 3) : ∀ w, w < 4 → f w = g w := by
  intro w hw
  rcases (show w = 0 ∨ w = 1 ∨ w = 2 ∨ w = 3 by omega) with rfl | rfl | rfl | rfl
  · exact h0
  · exact h1
  · exact h2
  · exact h3
theorem oq_94 (h : rel_ D) {x1 x2 x3 x4 : Int32} : op_ X D 94 [.ref 0, .int x1, .int x2, .int x3, .int x4] 170 [.ref 85, .int x1, .int x2, .int x3, .int x4] := by
  obtain ⟨S, hr⟩ := h
  obtain ⟨hW, hC, hM, -⟩ := id hr
  refine pu_e94 ?_
  have e0 : ∀ v P, pu_I X 145 [.int 4, .int 0, .int v] D P = P (nu_b (rb_ v 1 12)) D := fun v P => sp_145 (t := 4) (k := 0) (by omega) (by omega)
  have e1 : ∀ v P, pu_I X 145 [.int 4, .int 1, .int v] D P = P (nu_b (rb_ v 1 99)) D := fun v P => sp_145 (t := 4) (k := 1) (by omega) (by omega)
  have e2 : ∀ v P, pu_I X 145 [.int 4, .int 2, .int v] D P = P (nu_b (rb_ v 0 99)) D := fun v P => sp_145 (t := 4) (k := 2) (by omega) (by omega)
  have e3 : ∀ v P, pu_I X 145 [.int 4, .int 3, .int v] D P = P (nu_b (rb_ v 1 99)) D := fun v P => sp_145 (t := 4) (k := 3) (by omega) (by omega)
  have e8 : ∀ P, pu_I X 80 [.ref 3] D P = P (nu_b (S 8 0 0 = 6)) D := fun P => sp_80t (t := 0) hW hC (by omega)
  have bad : ¬ (rb_ x1 1 12 ∧ rb_ x2 1 99 ∧ rb_ x3 0 99 ∧ rb_ x4 1 99) → pu_I X 170 [.ref 85, .int x1, .int x2, .int x3, .int x4] (rf_ D 6) (fun y2 D2 => -6 = y2 ∧ rel_ D2) := by
    intro hb
    refine pu_e170 ?_
    rw [mp_168, nu_bF hb, if_pos rfl, mp_149_6]
    exact ⟨rfl, S, rx_rf hr⟩
  simp only [e0, e1, e2, e3, e8, nu_b0, sp_130_6, sp_130_7]
  by_cases c1 : rb_ x1 1 12
  · rw [if_neg (show ¬ ¬ rb_ x1 1 12 from fun z => z c1)]
    by_cases c2 : rb_ x2 1 99
    · rw [if_neg (show ¬ ¬ rb_ x2 1 99 from fun z => z c2)]
      by_cases c3 : rb_ x3 0 99
      · rw [if_neg (show ¬ ¬ rb_ x3 0 99 from fun z => z c3)]
        by_cases c4 : rb_ x4 1 99
        · rw [if_neg (show ¬ ¬ rb_ x4 1 99 from fun z => z c4)]
          have c : rb_ x1 1 12 ∧ rb_ x2 1 99 ∧ rb_ x3 0 99 ∧ rb_ x4 1 99 := ⟨c1, c2, c3, c4⟩
          by_cases hf : S 8 0 0 = 6
          · rw [if_neg (show ¬ ¬ S 8 0 0 = 6 from fun z => z hf)]
            refine pu_e170 ?_
            rw [mp_168, nu_bT c, if_neg (by decide), rf_85, (rm_n hM).1, hf, if_pos (show nu_i 6 = (6 : Int32) from rfl), mp_149_7]
            exact ⟨rfl, S, rx_rf hr⟩
          · rw [if_pos hf]
            have hlt : S 8 0 0 < 6 := by have : S 8 0 0 ≤ 6 := hW.1 0 (by omega); omega
            obtain ⟨a1, b1, b2, rfl⟩ := rb_e (by omega) (by omega) c1
            obtain ⟨a2, b3, b4, rfl⟩ := rb_e (by omega) (by omega) c2
            obtain ⟨a3, b5, b6, rfl⟩ := rb_e (by omega) (by omega) c3
            obtain ⟨a4, b7, b8, rfl⟩ := rb_e (by omega) (by omega) c4
            refine sp_84 (b := 1) (t := 0) (Or.inl rfl) (by omega) hC hlt fun D1 hc => ?_
            have e85 : D1.1 85 0 = nu_i (S 8 0 0) := by rw [hc.2.2.1 _ _ (by omega)]; exact (rm_n hM).1
            refine pu_e170 ?_
            rw [mp_168, nu_bT c, if_neg (by decide), if_neg (show ¬ D1.1 85 0 = 6 by rw [e85, show (6 : Int32) = nu_i 6 from rfl, nu_eq (by omega) (by omega)]; exact hf)]
            refine mp_169 e85 hlt fun D2 hm => ⟨rfl, _, rx_add (r := r4_ a1 a2 a3 a4) hr (by omega) hlt ?_ (vv_4 rfl rfl rfl rfl) (vv_4 rfl rfl rfl rfl) hc hm⟩
            exact ⟨fun _ => ⟨⟨b1, b2⟩, ⟨b3, b4⟩, b6, b7, b8⟩, fun z => by omega, fun z => by omega, fun z => by omega, fun z => by omega⟩
        · rw [if_pos c4]; exact bad (fun z => c4 z.2.2.2)
      · rw [if_pos c3]; exact bad (fun z => c3 z.2.2.1)
    · rw [if_pos c2]; exact bad (fun z => c2 z.2.1)
  · rw [if_pos c1]; exact bad (fun z => c1 z.1)
theorem oq_97 (h : rel_ D) {x1 x2 : Int32} : op_ X D 97 [.ref 0, .int x1, .int x2] 177 [.ref 85, .int x1, .int x2] := by
  obtain ⟨S, hr⟩ := h
  obtain ⟨hW, hC, hM, -⟩ := id hr
  refine pu_e97 ?_
  have e1 : ∀ v P, pu_I X 145 [.int 8, .int 1, .int v] D P = P (nu_b (rb_ v 0 999)) D := fun v P => sp_145 (t := 8) (k := 1) (by omega) (by omega)
  have e8 : ∀ P, pu_I X 80 [.ref 11] D P = P (nu_b (S 8 0 4 = 12)) D := fun P => sp_80t (t := 4) hW hC (by omega)
  simp only [sp_139, e1, e8, nu_b0, sp_130_6, sp_130_7, sp_130_1]
  by_cases c1 : rg_ x1 120
  · rw [if_neg (show ¬ ¬ rg_ x1 120 from fun z => z c1)]
    by_cases c2 : rb_ x2 0 999
    · rw [if_neg (show ¬ ¬ rb_ x2 0 999 from fun z => z c2)]
      by_cases hf : S 8 0 4 = 12
      · rw [if_neg (show ¬ ¬ S 8 0 4 = 12 from fun z => z hf)]
        refine pu_e177 ?_
        rw [mp_152, nu_bT c1, if_neg (by decide), if_neg (show ¬ x2 < 0 from c2.1), if_neg (show ¬ 999 < x2 from c2.2), rf_85, (rm_n hM).2.2.2.2.1, hf, if_pos (show nu_i 12 = (12 : Int32) from rfl), mp_149_7]
        exact ⟨rfl, S, rx_rf hr⟩
      · rw [if_pos hf]
        have hlt : S 8 0 4 < 12 := by have : S 8 0 4 ≤ 12 := hW.1 4 (by omega); omega
        obtain ⟨a1, b1, rfl⟩ := rg_e (by omega) c1
        obtain ⟨a2, b3, b4, rfl⟩ := rb_e (by omega) (by omega) c2
        refine sp_84 (b := 1) (t := 4) (Or.inl rfl) (by omega) hC hlt fun D1 hc => ?_
        have e85 : D1.1 85 4 = nu_i (S 8 0 4) := by rw [hc.2.2.1 _ _ (by omega)]; exact (rm_n hM).2.2.2.2.1
        refine pu_e177 ?_
        rw [mp_152, nu_bT c1, if_neg (by decide), if_neg (show ¬ nu_i a2 < 0 from c2.1), if_neg (show ¬ 999 < nu_i a2 from c2.2), if_neg (show ¬ D1.1 85 4 = 12 by rw [e85, show (12 : Int32) = nu_i 12 from rfl, nu_eq (by omega) (by omega)]; exact hf)]
        refine mp_176 e85 hlt fun D2 hm => ⟨nu_addn .., _, rx_add (r := r4_ a1 a2 0 0) hr (by omega) hlt ?_ (vv_4 rfl rfl rfl rfl) (fun w hw => ?_) hc hm⟩
        · exact ⟨fun z => by omega, fun z => by omega, fun _ => b1, fun _ => b4, fun z => by omega⟩
        · have hw2 : w < 2 := hw
          rcases (show w = 0 ∨ w = 1 by omega) with rfl | rfl <;> rfl
    · rw [if_pos c2]
      refine pu_e177 ?_
      rw [mp_152, nu_bT c1, if_neg (by decide)]
      by_cases c3 : x2 < 0
      · rw [if_pos c3, mp_149_6]; exact ⟨rfl, S, rx_rf hr⟩
      · rw [if_neg c3]
        by_cases c4 : 999 < x2
        · rw [if_pos c4, mp_149_6]; exact ⟨rfl, S, rx_rf hr⟩
        · exact absurd ⟨c3, c4⟩ c2
  · rw [if_pos c1]
    refine pu_e177 ?_
    rw [mp_152, nu_bF c1, if_pos rfl, mp_149_1]
    exact ⟨rfl, S, rx_rf hr⟩
end ST
