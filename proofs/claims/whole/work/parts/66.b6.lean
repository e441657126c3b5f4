/-! ROOM in the reference's street. -/
/-- the table of the reference's word 4 + v -/
def tw_ (v : Nat) : Nat := [0, 1, 2, 3, 6, 4, 5].getD v 0
section WD
variable {X : px_X} {S : Nat → Nat → Nat → Nat} {D : pu_D}
theorem fu_ {t : Nat} (hM : re_M S D) (hW : wf_ S) (ht : t < 7) {P : Int32 → Prop} (m : Int32) (hm : m = nu_i (mo_ t)) (h : P (nu_b (S 8 0 t = mo_ t))) : if D.1 85 t = m then P 1 else P 0 := by
  have hle := hW.1 t ht
  have := mo_le ht
  rw [(hM.1 t ht).1, hm]
  by_cases c : S 8 0 t = mo_ t
  · rw [if_pos (by rw [c])]; rw [nu_bT c] at h; exact h
  · rw [if_neg (by rw [nu_eq (by omega) (by omega)]; exact c)]; rw [nu_bF c] at h; exact h
theorem mp_188 {v : Nat} {P : Int32 → pu_D → Prop} (hM : re_M S D) (hW : wf_ S) (hv : v < 7) : pu_I X 188 [.ref 85, .int (nu_i (4 + v))] D P = P (nu_b (S 8 0 (tw_ v) = mo_ (tw_ v))) D := by
  refine pu_I_of (pu_e188 ?_) P
  have f : ∀ (t : Nat) (m : Int32), t < 7 → m = nu_i (mo_ t) → ∀ Q : Int32 → Prop, Q (nu_b (S 8 0 t = mo_ t)) → if D.1 85 t = m then Q 1 else Q 0 := fun t m ht hm Q h => fu_ hM hW ht m hm h
  rcases (show v = 0 ∨ v = 1 ∨ v = 2 ∨ v = 3 ∨ v = 4 ∨ v = 5 ∨ v = 6 by omega) with rfl | rfl | rfl | rfl | rfl | rfl | rfl
  · rw [if_pos (by decide)]
    exact f 0 6 (by omega) rfl (fun y => y = _ ∧ D = D) ⟨rfl, rfl⟩
  · rw [if_neg (by decide), if_pos (by decide)]
    exact f 1 9 (by omega) rfl (fun y => y = _ ∧ D = D) ⟨rfl, rfl⟩
  · rw [if_neg (by decide), if_neg (by decide), if_pos (by decide), if_pos (by decide)]
    refine pu_e173 ?_
    rw [if_pos (by decide)]
    exact f 2 12 (by omega) rfl (fun y => y &&& 1 = y ∧ y = _ ∧ D = D) ⟨nu_b1x _, rfl, rfl⟩
  · rw [if_neg (by decide), if_neg (by decide), if_pos (by decide), if_pos (by decide)]
    refine pu_e173 ?_
    rw [if_neg (by decide), if_pos (by decide)]
    exact f 3 12 (by omega) rfl (fun y => y &&& 1 = y ∧ y = _ ∧ D = D) ⟨nu_b1x _, rfl, rfl⟩
  · rw [if_neg (by decide), if_neg (by decide), if_pos (by decide), if_pos (by decide)]
    refine pu_e173 ?_
    rw [if_neg (by decide), if_neg (by decide)]
    exact f 6 6 (by omega) rfl (fun y => y &&& 1 = y ∧ y = _ ∧ D = D) ⟨nu_b1x _, rfl, rfl⟩
  · rw [if_neg (by decide), if_neg (by decide), if_pos (by decide), if_neg (by decide), if_pos (by decide)]
    exact f 4 12 (by omega) rfl (fun y => y = _ ∧ D = D) ⟨rfl, rfl⟩
  · rw [if_neg (by decide), if_neg (by decide), if_pos (by decide), if_neg (by decide), if_neg (by decide), if_pos (by decide)]
    exact f 5 8 (by omega) rfl (fun y => y = _ ∧ D = D) ⟨rfl, rfl⟩
end WD
