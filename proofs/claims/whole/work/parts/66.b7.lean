/-! AN ITEM READ, in numbers; by the class. -/
/-- how many numbers an item of word w has -/
def nb_ (w : Nat) : Nat := [1, 1, 1, 1, 4, 2, 1, 1, 2, 3, 1].getD w 0
/-- the place behind k numbers of an item of word w at p; the k-th number -/
def pq_ (D : pu_D) (n sz w p : Nat) : Nat → Nat
  | 0 => p + px_wl.getD w 0
  | k + 1 => pq_ D n sz w p k + 1 + dn_ D n sz (pq_ D n sz w p k + 1)
def vq_ (D : pu_D) (n sz w p k : Nat) : Int32 := vi_ D n sz (pq_ D n sz w p k + 1) (dn_ D n sz (pq_ D n sz w p k + 1))
abbrev kb_ (D : pu_D) (n sz w p k : Nat) : Prop := jv_ D n sz (pq_ D n sz w p k) = 32
abbrev kn_ (D : pu_D) (n sz w p k : Nat) : Prop := ¬ dn_ D n sz (pq_ D n sz w p k + 1) = 0 ∧ rb_ (vq_ D n sz w p k) (bl_ (w * 4 + k)) (bh_ (w * 4 + k))
/-- where r numbers from the k-th on are wrong -/
def nf_ (D : pu_D) (n sz w p : Nat) : Nat → Nat → Option Nat
  | 0, _ => none
  | r + 1, k => if kb_ D n sz w p k then (if kn_ D n sz w p k then nf_ D n sz w p r (k + 1) else some (pq_ D n sz w p k + 1)) else some (pq_ D n sz w p k)
/-- the word that stands at p; 11: none -/
def wq_ (D : pu_D) (n sz p : Nat) : Nat := fi_ (fun w => decide (sl_w D n sz p w = px_wl.getD w 0)) 11
/-- where an item at p is wrong -/
def ie_ (D : pu_D) (n sz : Nat) (S : Nat → Nat → Nat → Nat) (p : Nat) : Option Nat :=
  if wq_ D n sz p = 11 then some (rw_ D n sz p 11)
  else if wq_ D n sz p < 4 ∨ ¬ S 8 0 (wq_ D n sz p - 4) = mo_ (wq_ D n sz p - 4) then nf_ D n sz (wq_ D n sz p) p (nb_ (wq_ D n sz p)) 0
  else some p
def nv_ (D : pu_D) (n sz w p k : Nat) : Nat := if k < nb_ w then (vq_ D n sz w p k).toNatClampNeg else 0
/-- the street with word w's item at p -/
def iz_ (D : pu_D) (n sz : Nat) (S : Nat → Nat → Nat → Nat) (w p : Nat) : Nat → Nat → Nat → Nat :=
  if w < 4 then cg_ S 7 0 w (nv_ D n sz w p 0) else ad_ S (w - 4) (nv_ D n sz w p)
/-- the street with the item at p; the place behind it -/
def is_ (D : pu_D) (n sz : Nat) (S : Nat → Nat → Nat → Nat) (p : Nat) : Nat → Nat → Nat → Nat := iz_ D n sz S (wq_ D n sz p) p
def iq_ (D : pu_D) (n sz p : Nat) : Nat := pq_ D n sz (wq_ D n sz p) p (nb_ (wq_ D n sz p))
section WD
variable {X : px_X} {S : Nat → Nat → Nat → Nat} {D : pu_D}
theorem wl_6 {w : Nat} (hw : w < 11) : 4 ≤ px_wl.getD w 0 ∧ px_wl.getD w 0 ≤ 6 := by
  rcases (show w = 0 ∨ w = 1 ∨ w = 2 ∨ w = 3 ∨ w = 4 ∨ w = 5 ∨ w = 6 ∨ w = 7 ∨ w = 8 ∨ w = 9 ∨ w = 10 by omega) with rfl | rfl | rfl | rfl | rfl | rfl | rfl | rfl | rfl | rfl | rfl <;> decide
theorem nb_4 {w : Nat} (hw : w < 11) : 1 ≤ nb_ w ∧ nb_ w ≤ 4 ∧ pu_sa 2 w = nu_i (nb_ w) := by
  rcases (show w = 0 ∨ w = 1 ∨ w = 2 ∨ w = 3 ∨ w = 4 ∨ w = 5 ∨ w = 6 ∨ w = 7 ∨ w = 8 ∨ w = 9 ∨ w = 10 by omega) with rfl | rfl | rfl | rfl | rfl | rfl | rfl | rfl | rfl | rfl | rfl <;> exact ⟨by decide, by decide, by decide +kernel⟩
theorem wb_B : (List.range 11).all (fun j => (List.range 11).all fun f => decide (j = f) || (List.range 6).any fun i => decide (i < px_wl.getD j 0) && decide (i < px_wl.getD f 0) && !decide ((px_wb.getD j []).getD i 0 = (px_wb.getD f []).getD i 0)) = true := by decide +kernel
theorem wb_ne {j f : Nat} (hj : j < 11) (hf : f < 11) (h : j ≠ f) : ∃ i, i < px_wl.getD j 0 ∧ i < px_wl.getD f 0 ∧ ¬ (px_wb.getD j []).getD i 0 = (px_wb.getD f []).getD i 0 := by
  have h1 := List.all_eq_true.mp (List.all_eq_true.mp wb_B j (List.mem_range.mpr hj)) f (List.mem_range.mpr hf)
  simp only [Bool.or_eq_true, decide_eq_true_eq, h, false_or, List.any_eq_true, Bool.and_eq_true, Bool.not_eq_true', decide_eq_false_iff_not] at h1
  obtain ⟨i, -, ⟨h2, h3⟩, h4⟩ := h1
  exact ⟨i, h2, h3, h4⟩
theorem sl_at {n sz p w i : Nat} (h : i < sl_w D n sz p w) : jv_ D n sz (p + i) = (px_wb.getD w []).getD i 0 := by
  have := (fi_at (fun i => !decide (jv_ D n sz (p + i) = (px_wb.getD w []).getD i 0)) (px_wl.getD w 0)).2 i h
  simpa using this
/-- another word reaches less far than the one that stands -/
theorem sl_lt {n sz p j f : Nat} (hj : j < 11) (hf : f < 11) (h : j ≠ f) (hs : sl_w D n sz p f = px_wl.getD f 0) : sl_w D n sz p j < px_wl.getD f 0 ∧ sl_w D n sz p j < px_wl.getD j 0 := by
  obtain ⟨i, h1, h2, h3⟩ := wb_ne hj hf h
  have h4 := sl_at (D := D) (n := n) (sz := sz) (p := p) (w := f) (i := i) (by omega)
  have h5 : ¬ i < sl_w D n sz p j := fun z => h3 ((sl_at z).symm.trans h4)
  omega
theorem rw_f {n sz p f : Nat} (hf : f < 11) (hs : sl_w D n sz p f = px_wl.getD f 0) : rw_ D n sz p (f + 1) = p + px_wl.getD f 0 := by
  have key : ∀ w, w ≤ f → rw_ D n sz p w ≤ p + px_wl.getD f 0 := by
    intro w
    induction w with
    | zero => exact fun _ => Nat.le_add_right _ _
    | succ w ih =>
      intro hw
      have h1 := ih (by omega)
      have h2 := (sl_lt (j := w) (by omega) hf (by omega) hs).1
      rw [rw_s]; split <;> omega
  have h1 := key f (Nat.le_refl f)
  rw [rw_s, hs]; split <;> omega
theorem ww_f {n sz p f : Nat} (hf : f < 11) (hs : sl_w D n sz p f = px_wl.getD f 0) : wq_ D n sz p = f := by
  refine fi_eq (by omega) (fun j hj => ?_) (fun _ => decide_eq_true hs)
  have := (sl_lt (j := j) (by omega) hf (by omega) hs).2
  exact decide_eq_false (by omega)
theorem ww_0 {n sz p : Nat} (h : ∀ j, j < 11 → ¬ sl_w D n sz p j = px_wl.getD j 0) : wq_ D n sz p = 11 := fi_eq (Nat.le_refl 11) (fun j hj => decide_eq_false (h j hj)) (fun z => absurd z (Nat.lt_irrefl 11))
theorem pq_le {n sz w p : Nat} (hw : w < 11) : ∀ k, p + 4 + k ≤ pq_ D n sz w p k ∧ pq_ D n sz w p k ≤ p + 6 + 4 * k
  | 0 => by have := wl_6 hw; unfold pq_; omega
  | k + 1 => by
    have h1 := pq_le (n := n) (sz := sz) (p := p) hw k
    have h2 : dn_ D n sz (pq_ D n sz w p k + 1) ≤ 3 := fi_le _ _
    unfold pq_; omega
theorem bh_B : (List.range 44).all (fun i => decide (bl_ i ≤ 999) && decide (bh_ i ≤ 999)) = true := by decide
theorem bh_9 {i : Nat} (h : i < 44) : bl_ i ≤ 999 ∧ bh_ i ≤ 999 := by
  have := List.all_eq_true.mp bh_B i (List.mem_range.mpr h)
  simpa using this
theorem nv_e {n sz w p k : Nat} (hw : w < 11) (hk : k < nb_ w) (h : kn_ D n sz w p k) : vq_ D n sz w p k = nu_i (nv_ D n sz w p k) ∧ bl_ (w * 4 + k) ≤ nv_ D n sz w p k ∧ nv_ D n sz w p k ≤ bh_ (w * 4 + k) := by
  have := nb_4 hw
  have h9 := bh_9 (i := w * 4 + k) (by omega)
  obtain ⟨a, h1, h2, h3⟩ := rb_e (by omega) (by omega) h.2
  have h4 : nv_ D n sz w p k = a := by
    unfold nv_
    rw [if_pos hk, h3, nu_ix (by omega)]
  rw [h4]
  exact ⟨h3, h1, h2⟩
theorem nv_0 {n sz w p k : Nat} (hk : ¬ k < nb_ w) : nv_ D n sz w p k = 0 := if_neg hk
theorem nf_s {n sz w p r k : Nat} : (¬ kb_ D n sz w p k → nf_ D n sz w p (r + 1) k = some (pq_ D n sz w p k)) ∧ (kb_ D n sz w p k → ¬ kn_ D n sz w p k → nf_ D n sz w p (r + 1) k = some (pq_ D n sz w p k + 1)) ∧ (kb_ D n sz w p k → kn_ D n sz w p k → nf_ D n sz w p (r + 1) k = nf_ D n sz w p r (k + 1)) := by
  refine ⟨fun h => ?_, fun h h2 => ?_, fun h h2 => ?_⟩
  · rw [nf_, if_neg h]
  · rw [nf_, if_pos h, if_neg h2]
  · rw [nf_, if_pos h, if_pos h2]
end WD
