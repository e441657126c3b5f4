/-! AN ITEM READ by the reference: any word. -/
section WD
variable {X : px_X} {S : Nat → Nat → Nat → Nat} {D : pu_D}
theorem tw_m {u : Nat} (h4 : 4 ≤ u) (hu : u < 11) : tw_ (u - 4) = mv_ u - 4 ∧ 4 ≤ mv_ u := by
  rcases (show u = 4 ∨ u = 5 ∨ u = 6 ∨ u = 7 ∨ u = 8 ∨ u = 9 ∨ u = 10 by omega) with rfl | rfl | rfl | rfl | rfl | rfl | rfl <;> decide
theorem mp_188m {v : Nat} {P : Int32 → pu_D → Prop} (hM : re_M S D) (hW : wf_ S) (h4 : 4 ≤ v) (hv : v < 11) : pu_I X 188 [.ref 85, .int (nu_i v)] D P = P (nu_b (S 8 0 (mv_ v - 4) = mo_ (mv_ v - 4))) D := by
  have h := mp_188 (X := X) (D := D) (P := P) (v := v - 4) hM hW (by omega)
  rw [(tw_m h4 hv).1, show 4 + (v - 4) = v by omega] at h
  exact h
/-- a word that isn't full is passed over -/
theorem mp_190n {n sz p v : Nat} {P : Int32 → pu_D → Prop} (hW : wf_ S) (hM : re_M S D) (hn : n < 8) (hs : sz ≤ 120) (hp : p ≤ 120) (h : ps_ D n sz p) (hw : h110 D) (h4 : 4 ≤ v) (hv : v < 11) (hnot : ¬ (wq_ D n sz p = mv_ v ∧ S 8 0 (mv_ v - 4) = mo_ (mv_ v - 4))) (H : pu_h190_2 X (nu_i (v + 1)) D P) : pu_h190_2 X (nu_i v) D P := by
  have next : pu_h190_33 X (nu_i v) D P := by
    refine pu_u190_33 ?_
    rw [nu_addn]
    exact H
  have c : (wq_ D n sz p = mv_ v ∧ ¬ S 8 0 (mv_ v - 4) = mo_ (mv_ v - 4)) ∨ ¬ wq_ D n sz p = mv_ v := by
    rcases Nat.decEq (wq_ D n sz p) (mv_ v) with c | c
    · exact Or.inr c
    · exact Or.inl ⟨c, fun z => hnot ⟨c, z⟩⟩
  clear H hnot
  rcases c with ⟨c1, c2⟩ | c1
  · refine pu_u190_2 ?_
    rw [if_pos (show nu_i v < (11 : Int32) from nu_ltp (b := 11) (by omega) hv)]
    rw [mp_189 hn hs (by omega) h hw hv]
    rw [nu_bT c1, if_neg (show ¬ (1 : Int32) = 0 by decide), mp_188m hM hW h4 hv, nu_bF c2, if_pos rfl]
    exact next
  · refine pu_u190_2 ?_
    rw [if_pos (show nu_i v < (11 : Int32) from nu_ltp (b := 11) (by omega) hv)]
    rw [mp_189 hn hs (by omega) h hw hv]
    rw [nu_bF c1, if_pos rfl]
    exact next
theorem mp_190f {n sz p v : Nat} {P : Int32 → pu_D → Prop} (H : hi_ D n sz S p P) (hW : wf_ S) (hM : re_M S D) (hn : n < 8) (hs : sz ≤ 120) (hp : p ≤ 120) (h : ps_ D n sz p) (hw : h110 D) (h4 : 4 ≤ v) (hv : v < 11) (c1 : wq_ D n sz p = mv_ v) (c2 : S 8 0 (mv_ v - 4) = mo_ (mv_ v - 4)) : pu_h190_2 X (nu_i v) D P := by
  have hie : ie_ D n sz S p = some p := by
    have o1 := (of_h hv).1
    have t2 := (tw_m h4 hv).2
    unfold ie_
    rw [c1, if_neg (by omega), if_neg (fun z => z.elim (fun y => by omega) (fun y => y c2))]
  have fin := H.1 p (pu_wi D 85 41 (nu_i p)) hie (ag_wi (ag_rf D) (by unfold mz_; omega)) wi_eq
  clear H
  refine pu_u190_2 ?_
  rw [if_pos (show nu_i v < (11 : Int32) from nu_ltp (b := 11) (by omega) hv)]
  rw [mp_189 hn hs (by omega) h hw hv]
  rw [nu_bT c1, if_neg (show ¬ (1 : Int32) = 0 by decide), mp_188m hM hW h4 hv, nu_bT c2, if_neg (show ¬ (1 : Int32) = 0 by decide), mp_183, h.2.1]
  exact ⟨by decide, fin⟩
theorem mp_190 {n sz p : Nat} {P : Int32 → pu_D → Prop} (H : hi_ D n sz S p P) (hW : wf_ S) (hM : re_M S D) (hn : n < 8) (hs : sz ≤ 120) (hp : p ≤ 120) (h : ps_ D n sz p) (hw : h110 D) : pu_I X 190 [.ref 85] D P := by
  have key : ∀ r v, v + r = 11 → 4 ≤ v → (∀ u, 4 ≤ u → u < v → ¬ (wq_ D n sz p = mv_ u ∧ S 8 0 (mv_ u - 4) = mo_ (mv_ u - 4))) → pu_h190_2 X (nu_i v) D P := by
    intro r
    induction r with
    | zero =>
      intro v hv h4 hf
      have e : v = 11 := by omega
      subst e
      rw [show nu_i 11 = (11 : Int32) from rfl]
      exact mp_190w H hW hM hn hs hp h hw hf
    | succ r ih =>
      intro v hv h4 hf
      have hv11 : v < 11 := by omega
      by_cases c : wq_ D n sz p = mv_ v ∧ S 8 0 (mv_ v - 4) = mo_ (mv_ v - 4)
      · exact mp_190f H hW hM hn hs hp h hw h4 hv11 c.1 c.2
      · refine mp_190n hW hM hn hs hp h hw h4 hv11 c (ih (v + 1) (by omega) (by omega) (fun u h4u hu => ?_))
        by_cases e : u = v
        · subst e; exact c
        · exact hf u h4u (by omega)
  exact pu_e190 (key 7 4 rfl (Nat.le_refl 4) (fun u h4 hu => absurd hu (by omega)))
end WD
