/-! BEHIND THE CONSTRUCTORS both sides tell the same. -/
theorem re_0 {h : px_H} (hc : (decide (h.1 = pu_G) && rs_.all fun r => decide (h.2.1 r.1 r.2.1 = r.2.2)) = true) : h.1 = pu_G ∧ rel_ h.2 := by
  rw [Bool.and_eq_true, decide_eq_true_eq] at hc
  obtain ⟨hG, hr⟩ := hc
  have rd : ∀ q j v, (q, j, v) ∈ rs_ → h.2.1 q j = v := fun q j v hm => of_decide_eq_true (List.all_eq_true.mp hr (q, j, v) hm)
  have mA : ∀ t, t < 7 → ∀ x, x ∈ ([(3 + 2 * t, 2, 0), (3 + 2 * t, 0, nu_i (mo_ t)), (85, t, 0), (19 + 2 * t, 0, nu_i (mo_ t)), (35 + 2 * t, 0, nu_i (mo_ t))] : List (Nat × Nat × Int32)) → x ∈ rs_ := fun t ht x hx => List.mem_append_left _ (List.mem_append_left _ (List.mem_append_left _ (List.mem_append_left _ (List.mem_flatMap.mpr ⟨t, List.mem_range.mpr ht, hx⟩))))
  have mB : ∀ j, j < 4 → ∀ x, x ∈ ([(2, j, nu_i (se_ 7 0 j)), (85, 7 + j, nu_i (se_ 7 0 j))] : List (Nat × Nat × Int32)) → x ∈ rs_ := fun t ht x hx => List.mem_append_left _ (List.mem_append_left _ (List.mem_append_left _ (List.mem_append_right _ (List.mem_flatMap.mpr ⟨t, List.mem_range.mpr ht, hx⟩))))
  have mC : ∀ x, x ∈ ([(0, 3, 0), (85, 51, 0), (0, 10, -1), (85, 11, -1), (66, 1, 0), (85, 49, 0)] : List (Nat × Nat × Int32)) → x ∈ rs_ := fun x hx => List.mem_append_left _ (List.mem_append_left _ (List.mem_append_right _ hx))
  have mE : ∀ n, n < 8 → ∀ x, x ∈ ([(103, n, 0), (69 + 2 * n, 1, -1), (68, n, 0), (86, n, 0)] : List (Nat × Nat × Int32)) → x ∈ rs_ := fun t ht x hx => List.mem_append_left _ (List.mem_append_right _ (List.mem_flatMap.mpr ⟨t, List.mem_range.mpr ht, hx⟩))
  have mF : ∀ i, i < 70 → (110, i, nu_i (wl_.getD i 0)) ∈ rs_ := fun i hi => List.mem_append_right _ (List.mem_map.mpr ⟨i, List.mem_range.mpr hi, rfl⟩)
  have z8 : ∀ t, se_ 8 0 t = 0 := fun t => if_neg (by omega)
  refine ⟨hG, se_, ⟨fun t ht => ?_, fun i hi => ?_, fun i hi => ?_, fun t ht h2 i hi => ?_, fun i hi => ?_, fun i hi => ?_, ?_⟩, ⟨fun t ht => ⟨?_, ?_, fun i hi => ?_⟩, fun j hj => ?_⟩, ⟨fun t ht => ⟨?_, fun w hw i hi => ?_⟩, fun j hj => ?_⟩, fun b hb t ht => ?_, ⟨?_, Or.inl ?_⟩, fun n hn => Or.inl ⟨?_, ?_⟩, fun k hk1 hk2 => ?_, ?_, ⟨0, by omega, ?_, ?_, fun i hi => absurd hi (Nat.not_lt_zero _)⟩, fun i hi => ?_⟩
  · rw [z8]; exact Nat.zero_le _
  · rw [z8] at hi; exact absurd hi (Nat.not_lt_zero _)
  · rw [z8] at hi; exact absurd hi (Nat.not_lt_zero _)
  · rw [z8] at hi; exact absurd hi (Nat.not_lt_zero _)
  · rw [z8] at hi; exact absurd hi (Nat.not_lt_zero _)
  · rw [z8] at hi; exact absurd hi (Nat.not_lt_zero _)
  · decide
  · rw [z8]; show _ = (0 : Int32); exact rd _ _ _ (mA t ht _ (by simp))
  · exact rd _ _ _ (mA t ht _ (by simp))
  · rw [z8] at hi; exact absurd hi (Nat.not_lt_zero _)
  · exact rd _ _ _ (mB j hj _ (by simp))
  · rw [z8]; show _ = (0 : Int32); exact rd _ _ _ (mA t ht _ (by simp))
  · rw [z8] at hi; exact absurd hi (Nat.not_lt_zero _)
  · exact rd _ _ _ (mB j hj _ (by simp))
  · rcases hb with rfl | rfl
    · exact rd _ _ _ (mA t ht _ (by simp))
    · exact rd _ _ _ (mA t ht _ (by simp))
  · exact (rd 0 3 0 (mC _ (by simp))).trans (rd 85 51 0 (mC _ (by simp))).symm
  · exact rd 0 3 0 (mC _ (by simp))
  · exact rd _ _ _ (mE n hn _ (by simp))
  · exact rd _ _ _ (mE n hn _ (by simp))
  · exact (rd 68 k 0 (mE k (by omega) _ (by simp))).trans (rd 86 k 0 (mE k (by omega) _ (by simp))).symm
  · exact (rd 0 10 (-1) (mC _ (by simp))).trans (rd 85 11 (-1) (mC _ (by simp))).symm
  · exact rd 66 1 0 (mC _ (by simp))
  · exact rd 85 49 0 (mC _ (by simp))
  · exact rd _ _ _ (mF i hi)
/-- the two constructors, whatever the script: what they leave -/
theorem con_ (X : px_X) : ∃ h1 h2 : px_H, px_run X 6000 86 (px_mc 86, px_ms 86) (px_ct 86) (px_ent [.ref 0] (px_mx 86)) [] (px_h0 7) = some (none, h1) ∧ px_run X 6000 148 (px_mc 148, px_ms 148) (px_ct 148) (px_ent [.ref 85] (px_mx 148)) [] (h1.1 ++ [(8, px_nf 8, List.replicate (px_nf 8) none)], px_clr h1.2.1 h1.1.length, h1.2.2) = some (none, h2) ∧ h2.1 = pu_G ∧ rel_ h2.2 ∧ h1.1 = pu_G.take 85 := by
  have h := tr_1
  unfold tr_c at h
  split at h
  · rename_i h1 e1
    split at h
    · rename_i h2 e2
      rw [Bool.and_eq_true, decide_eq_true_eq] at h
      have := re_0 h.2
      exact ⟨h1, h2, (tr_X (by decide)).trans e1, (tr_X (by decide)).trans e2, this.1, this.2, h.1⟩
    · cases h
  · cases h
