/-! THE NEXT NUMBER, by the reference; ROOM in the class's street 17. -/
section WD
variable {X : px_X} {S : Nat → Nat → Nat → Nat} {D : pu_D}
theorem dn_ag {D' : pu_D} {n sz p : Nat} (h : D'.2 = D.2) : dn_ D' n sz p = dn_ D n sz p := by unfold dn_ jv_; rw [h]
theorem vi_ag {D' : pu_D} {n sz p : Nat} (h : D'.2 = D.2) : ∀ i, vi_ D' n sz p i = vi_ D n sz p i
  | 0 => rfl
  | i + 1 => by rw [vi_, vi_, vi_ag h i, jv_ag h]
theorem mp_187 {n sz p : Nat} {x1 x2 : Int32} {P : Int32 → pu_D → Prop} (hn : n < 8) (hs : sz ≤ 120) (hp : p ≤ 180) (h : ps_ D n sz p) (Hb : ∀ D', ¬ jv_ D n sz p = 32 → ag_ (fun q j => q = 85 ∧ (j = 38 ∨ j = 40 ∨ j = 41)) D D' → D'.1 85 41 = nu_i p → P 0 D') (H0 : ∀ D', jv_ D n sz p = 32 → (dn_ D n sz (p + 1) = 0 ∨ vi_ D n sz (p + 1) (dn_ D n sz (p + 1)) < x1 ∨ x2 < vi_ D n sz (p + 1) (dn_ D n sz (p + 1))) → ag_ (fun q j => q = 85 ∧ (j = 38 ∨ j = 40 ∨ j = 41)) D D' → D'.1 85 41 = nu_i (p + 1) → P 0 D') (H1 : ∀ D', jv_ D n sz p = 32 → ¬ dn_ D n sz (p + 1) = 0 → ¬ vi_ D n sz (p + 1) (dn_ D n sz (p + 1)) < x1 → ¬ x2 < vi_ D n sz (p + 1) (dn_ D n sz (p + 1)) → ag_ (fun q j => q = 85 ∧ (j = 38 ∨ j = 40)) D D' → ps_ D' n sz (p + 1 + dn_ D n sz (p + 1)) → D'.1 85 40 = vi_ D n sz (p + 1) (dn_ D n sz (p + 1)) → P 1 D') : pu_I X 187 [.ref 85, .int x1, .int x2] D P := by
  obtain ⟨h1, h2, h3⟩ := id h
  refine pu_e187 ?_
  rw [h1, h2, h3]
  have bad : ¬ jv_ D n sz p = 32 → pu_I X 183 [.ref 85, .int (nu_i p)] D (fun y2 D3 => (y2 &&& 1 = y2) ∧ P y2 D3) := by
    intro hb
    rw [mp_183]
    exact ⟨by decide, Hb _ hb (ag_wi (ag_rf D) ⟨rfl, by omega⟩) wi_eq⟩
  by_cases c : p < sz
  · rw [if_pos (nu_ltp (by omega) c), nu_add, nu_in (by omega), nu_ix (by omega)]
    refine ⟨by omega, ?_⟩
    have ej : jv_ D n sz p = Int64.toInt32 (D.2 108 (120 * n + p)) := if_pos c
    by_cases g : Int64.toInt32 (D.2 108 (120 * n + p)) = 32
    · rw [if_pos g, nu_addn]
      have hj : jv_ D n sz p = 32 := ej.trans g
      have ps1 : ps_ (pu_wi D 85 38 (nu_i (p + 1))) n sz (p + 1) := ⟨by rw [wi_j (by omega)]; exact h1, wi_eq, by rw [wi_j (by omega)]; exact h3⟩
      have a1 : ag_ (fun q j => q = 85 ∧ (j = 38 ∨ j = 40)) D (pu_wi D 85 38 (nu_i (p + 1))) := ag_wi (ag_rf D) ⟨rfl, by omega⟩
      refine mp_186 hn hs (by omega) ps1 (fun D' hc ha h41 => ?_) (fun D' c1 c2 c3 ha hps h40 => ?_)
      · rw [dn_ag a1.2, vi_ag a1.2] at hc
        exact ⟨by decide, H0 D' hj hc (ag_tr (ag_mo a1 fun q j z => by omega) ha) h41⟩
      · rw [dn_ag a1.2] at c1 c2 c3 hps h40
        rw [vi_ag a1.2] at c2 c3 h40
        exact ⟨by decide, H1 D' hj c1 c2 c3 (ag_tr a1 ha) hps h40⟩
    · rw [if_neg g]; exact bad (by rw [ej]; exact g)
  · rw [if_neg (nu_ltx (by omega) c)]
    exact bad (by unfold jv_; rw [if_neg c]; decide)
/-- the class's table t in street 17 -/
theorem sp_49 {t : Nat} {P : Nat → pu_D → Prop} (ht : t < 7) : pu_R X 49 [.ref 17, .int (nu_i (4 + t))] D P = P (19 + 2 * t) D := by
  refine pu_R_of (pu_e49 ?_) P
  rcases (show t = 0 ∨ t = 1 ∨ t = 2 ∨ t = 3 ∨ t = 4 ∨ t = 5 ∨ t = 6 by omega) with rfl | rfl | rfl | rfl | rfl | rfl | rfl <;> simp (decide := true) only [if_true, if_false]
theorem sp_47 {w : Nat} {P : Int32 → pu_D → Prop} (hW : wf_ S) (hC : re_C 17 S D) (hw : w < 11) : pu_I X 47 [.ref 17, .int (nu_i w)] D P = P (nu_b (w < 4 ∨ ¬ S 8 0 (w - 4) = mo_ (w - 4))) D := by
  refine pu_I_of (pu_e47 ?_) P
  by_cases h4 : w < 4
  · rw [if_neg (show ¬ (3 : Int32) < nu_i w by rw [nu_nlt (by omega) (by omega)]; show ¬ 3 < w; omega), nu_bT (Or.inl h4)]; exact ⟨rfl, rfl⟩
  · have ht : w - 4 < 7 := by omega
    have e : w = 4 + (w - 4) := by omega
    obtain ⟨hc, hmo, -⟩ := hC.1 (w - 4) ht
    have hml := mo_le ht
    have hle := hW.1 (w - 4) ht
    have hq := (tq_ (b := 17) (Or.inr rfl) ht).1
    have s49 : ∀ P, pu_R X 49 [.ref 17, .int (nu_i w)] D P = P (19 + 2 * (w - 4)) D := fun P => by
      have := sp_49 (X := X) (D := D) (P := P) ht
      rw [← e] at this; exact this
    rw [if_pos (show (3 : Int32) < nu_i w by rw [nu_nlt (by omega) (by omega)]; show 3 < w; omega), s49]
    refine ⟨hq, ?_⟩
    have s80 := fun P => sp_80 (X := X) (P := P) hq hc hmo hle (by omega)
    refine (s80 _).mpr ?_
    by_cases c : S 8 0 (w - 4) = mo_ (w - 4)
    · rw [nu_bT c, if_neg (by decide), nu_bF (by rintro (z | z); exact h4 z; exact z c)]; exact ⟨rfl, rfl⟩
    · rw [nu_bF c, if_pos rfl, nu_bT (Or.inr c)]; exact ⟨rfl, rfl⟩
end WD
