/-! A WORD READ by the class. -/
/-- how far the first w words' letters reach from p -/
def rw_ (D : pu_D) (n sz p w : Nat) : Nat := fo_ (fun j m => if m < p + sl_w D n sz p j then p + sl_w D n sz p j else m) w p
section WD
variable {X : px_X} {D : pu_D}
theorem rw_s {n sz p w : Nat} : rw_ D n sz p (w + 1) = if rw_ D n sz p w < p + sl_w D n sz p w then p + sl_w D n sz p w else rw_ D n sz p w := rfl
theorem sl_6 {n sz p w : Nat} (hw : w < 11) : sl_w D n sz p w ≤ 6 := by
  have hl : px_wl.getD w 0 ≤ 6 := by
    rcases (show w = 0 ∨ w = 1 ∨ w = 2 ∨ w = 3 ∨ w = 4 ∨ w = 5 ∨ w = 6 ∨ w = 7 ∨ w = 8 ∨ w = 9 ∨ w = 10 by omega) with rfl | rfl | rfl | rfl | rfl | rfl | rfl | rfl | rfl | rfl | rfl <;> decide
  exact Nat.le_trans (fi_le _ _) hl
theorem rw_le {n sz p : Nat} : ∀ w, w ≤ 11 → rw_ D n sz p w ≤ p + 6
  | 0, _ => Nat.le_add_right _ _
  | w + 1, hw => by
    have h1 := rw_le (n := n) (sz := sz) (p := p) w (by omega)
    have h2 := sl_6 (D := D) (n := n) (sz := sz) (p := p) (w := w) (by omega)
    rw [rw_s]; split <;> omega
theorem sl_ag {D' : pu_D} {n sz p w : Nat} (h : D'.2 = D.2) : sl_w D' n sz p w = sl_w D n sz p w := by
  unfold sl_w jv_
  rw [h]
theorem sp_75 {n so sz p : Nat} {P : Int32 → pu_D → Prop} (hn : n < 8) (h : ro_ D n so sz) (hp : p ≤ 200) (h0 : D.1 50 1 = nu_i p) (hP1 : ∀ f D2, f < 11 → sl_w D n sz p f = px_wl.getD f 0 → (∀ j, j < f → ¬ sl_w D n sz p j = px_wl.getD j 0) → ag_ (fun q j => q = 50 ∧ j = 1) D D2 → D2.1 50 1 = nu_i (rw_ D n sz p (f + 1)) → P (nu_i f) D2) (hP2 : ∀ D2, (∀ j, j < 11 → ¬ sl_w D n sz p j = px_wl.getD j 0) → ag_ (fun q j => q = 50 ∧ j = 1) D D2 → D2.1 50 1 = nu_i (rw_ D n sz p 11) → P (-1) D2) : pu_I X 75 [.ref 50, .ref (69 + 2 * n)] D P := by
  obtain ⟨s1, s2, s3⟩ := sv_ hn
  have key : ∀ (k w : Nat) (D' : pu_D), w + k = 11 → (∀ j, j < w → ¬ sl_w D n sz p j = px_wl.getD j 0) → ag_ (fun q j => q = 50 ∧ j = 1) D D' → D'.1 50 1 = nu_i (rw_ D n sz p w) → pu_h75_7 X (69 + 2 * n) (nu_i p) (nu_i w) D' P := by
    intro k
    induction k with
    | zero =>
      intro w D' hw hj ha h1
      have hw11 : w = 11 := by omega
      subst hw11
      refine pu_u75_7 s2 ?_
      rw [if_neg (show ¬ nu_i 11 < (11 : Int32) by decide)]
      exact hP2 D' hj ha h1
    | succ k ih =>
      intro w D' hw hj ha h1
      have hw11 : w < 11 := by omega
      have hr' : ro_ D' n so sz := ro_ag hn h ha (fun q j z => by omega)
      have hsl := sl_6 (D := D) (n := n) (sz := sz) (p := p) hw11
      have hrl := rw_le (D := D) (n := n) (sz := sz) (p := p) w (by omega)
      have hl : px_wl.getD w 0 ≤ 6 := by
        rcases (show w = 0 ∨ w = 1 ∨ w = 2 ∨ w = 3 ∨ w = 4 ∨ w = 5 ∨ w = 6 ∨ w = 7 ∨ w = 8 ∨ w = 9 ∨ w = 10 by omega) with rfl | rfl | rfl | rfl | rfl | rfl | rfl | rfl | rfl | rfl | rfl <;> decide
      refine pu_u75_7 s2 ?_
      rw [if_pos (show nu_i w < (11 : Int32) from nu_ltp (b := 11) (by omega) hw11), sp_147 hw11]
      refine ⟨⟨by omega, by omega⟩, ?_⟩
      rw [sp_76 hn hr' hp hw11, sl_ag ha.2, h1, nu_add, sp_251 hw11]
      have e : (if nu_i (rw_ D n sz p w) < nu_i (p + sl_w D n sz p w) then nu_i (p + sl_w D n sz p w) else nu_i (rw_ D n sz p w)) = nu_i (rw_ D n sz p (w + 1)) := by
        rw [rw_s]
        by_cases c : rw_ D n sz p w < p + sl_w D n sz p w
        · rw [if_pos (nu_ltp (by omega) c), if_pos c]
        · rw [if_neg (nu_ltx (by omega) c), if_neg c]
      rw [e]
      have ha2 : ag_ (fun q j => q = 50 ∧ j = 1) D (pu_wi D' 50 1 (nu_i (rw_ D n sz p (w + 1)))) := ag_wi ha ⟨rfl, rfl⟩
      by_cases c : sl_w D n sz p w = px_wl.getD w 0
      · rw [if_pos (by rw [c])]
        exact hP1 w _ hw11 c hj ha2 wi_eq
      · rw [if_neg (by rw [nu_eq (by omega) (by omega)]; exact c), nu_addn]
        refine ih (w + 1) _ (by omega) (fun j hj2 => ?_) ha2 wi_eq
        by_cases ej : j = w
        · rw [ej]; exact c
        · exact hj j (by omega)
  refine pu_e75 s2 ?_
  rw [h0]
  exact key 11 0 D rfl (fun j hj => absurd hj (Nat.not_lt_zero _)) (ag_rf D) h0
end WD
