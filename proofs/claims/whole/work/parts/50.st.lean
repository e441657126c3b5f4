/-! ONE NUMBER CHANGED: what is asked, a place's lamp, whether it burns; a laying. -/
def cg_ (S : Nat → Nat → Nat → Nat) (t i w v : Nat) : Nat → Nat → Nat → Nat := fun t' i' w' => if t' = t ∧ i' = i ∧ w' = w then v else S t' i' w'
section ST
variable {X : px_X} {S : Nat → Nat → Nat → Nat} {D : pu_D}
theorem cg_o {t i w v t' i' w' : Nat} (h : ¬ (t' = t ∧ i' = i ∧ w' = w)) : cg_ S t i w v t' i' w' = S t' i' w' := if_neg h
theorem cg_e {t i w v : Nat} : cg_ S t i w v t i w = v := if_pos ⟨rfl, rfl, rfl⟩
theorem re_cg {b t i w v : Nat} (hC : re_C b S D) (ht : t < 7) (hw : w < 4) : re_C b (cg_ S t i w v) (pu_wi D (b + 3 + 2 * t) (i * 4 + w) (en_ t w v)) := by
  refine ⟨fun t' ht' => ⟨?_, ?_, fun i' hi' w' hw' => ?_⟩, fun j hj => ?_⟩
  · rw [cg_o (by omega), wi_q (by omega)]; exact (hC.1 t' ht').1
  · rw [wi_q (by omega)]; exact (hC.1 t' ht').2.1
  · rw [cg_o (by omega)] at hi'
    by_cases e : t' = t ∧ i' = i ∧ w' = w
    · obtain ⟨rfl, rfl, rfl⟩ := e
      rw [wi_eq, cg_e]
    · rw [cg_o e, wi_if, if_neg (by omega)]; exact (hC.1 t' ht').2.2 i' hi' w' hw'
  · rw [cg_o (by omega), wi_q (by omega)]; exact hC.2 j hj
theorem re_cm {b j v : Nat} (hC : re_C b S D) : re_C b (cg_ S 7 0 j v) (pu_wi D (b + 1) j (nu_i v)) := by
  refine ⟨fun t' ht' => ⟨?_, ?_, fun i' hi' w' hw' => ?_⟩, fun j' hj => ?_⟩
  · rw [cg_o (by omega), wi_q (by omega)]; exact (hC.1 t' ht').1
  · rw [wi_q (by omega)]; exact (hC.1 t' ht').2.1
  · rw [cg_o (by omega)] at hi'
    rw [cg_o (by omega), wi_q (by omega)]; exact (hC.1 t' ht').2.2 i' hi' w' hw'
  · by_cases e : j' = j
    · subst e; rw [wi_eq, cg_e]
    · rw [cg_o (by omega), wi_j e]; exact hC.2 j' hj
theorem rm_cg {t i w v : Nat} (hM : re_M S D) (ht : t < 7) (hw : w < wd_ t) : re_M (cg_ S t i w v) (pu_wi D (cm_ t + w) i (en_ t w v)) := by
  have hcb := cm_b ht
  refine ⟨fun t' ht' => ⟨?_, fun w' hw' i' hi' => ?_⟩, fun j hj => ?_⟩
  · rw [cg_o (by omega), wi_q (by omega)]; exact (hM.1 t' ht').1
  · rw [cg_o (by omega)] at hi'
    by_cases e : t' = t ∧ i' = i ∧ w' = w
    · obtain ⟨rfl, rfl, rfl⟩ := e
      rw [wi_eq, cg_e]
    · rw [cg_o e, wi_if, if_neg ?_]
      · exact (hM.1 t' ht').2 w' hw' i' hi'
      · by_cases e2 : t' = t
        · subst e2; omega
        · have := cm_ne ht ht' e2; omega
  · rw [cg_o (by omega), wi_q (by omega)]; exact hM.2 j hj
theorem rm_cm {j v : Nat} (hM : re_M S D) : re_M (cg_ S 7 0 j v) (pu_wi D 85 (7 + j) (nu_i v)) := by
  refine ⟨fun t' ht' => ⟨?_, fun w' hw' i' hi' => ?_⟩, fun j' hj => ?_⟩
  · rw [cg_o (by omega), wi_j (by omega)]; exact (hM.1 t' ht').1
  · have := cm_b ht'
    rw [cg_o (by omega)] at hi'
    rw [cg_o (by omega), wi_q (by omega)]; exact (hM.1 t' ht').2 w' hw' i' hi'
  · by_cases e : j' = j
    · subst e; rw [wi_eq, cg_e]
    · rw [cg_o (by omega), wi_j (by omega)]; exact hM.2 j' hj
theorem wf_cgl {i w v : Nat} (hW : wf_ S) (h : (w = 2 ∧ v ≤ S 8 0 0) ∨ (w = 3 ∧ v ≤ 1)) : wf_ (cg_ S 1 i w v) := by
  refine ⟨fun t ht => ?_, fun i' hi => ?_, fun i' hi => ?_, fun t ht h2 i' hi => ?_, fun i' hi => ?_, fun i' hi => ?_, ?_⟩
  · rw [cg_o (by omega)]; exact hW.1 t ht
  · rw [cg_o (by omega)] at hi
    rw [cg_o (by omega), cg_o (by omega), cg_o (by omega), cg_o (by omega)]; exact wf_s hW hi
  · rw [cg_o (by omega)] at hi
    have hp := wf_p hW hi
    rw [cg_o (show ¬ (1 = 1 ∧ i' = i ∧ 0 = w) by omega), cg_o (show ¬ (1 = 1 ∧ i' = i ∧ 1 = w) by omega), cg_o (show ¬ (8 = 1 ∧ 0 = i ∧ 0 = w) by omega)]
    refine ⟨hp.1, hp.2.1, ?_, ?_⟩
    · unfold cg_; split <;> omega
    · unfold cg_; split <;> omega
  · rw [cg_o (by omega)] at hi
    rw [cg_o (by omega)]; exact wf_t hW t ht h2 hi
  · rw [cg_o (by omega)] at hi
    rw [cg_o (by omega)]; exact wf_w hW hi
  · rw [cg_o (by omega)] at hi
    rw [cg_o (by omega), cg_o (by omega)]; exact wf_h hW hi
  · rw [cg_o (by omega), cg_o (by omega), cg_o (by omega), cg_o (by omega)]; exact wf_m hW
theorem mb_B : (List.range 4).all (fun k => decide (bl_ (k * 4) = [0, 1, 1, 1].getD k 0) && decide (bh_ (k * 4) = [999, 99, 12, 60].getD k 0)) = true := by decide
theorem wf_cgm {j v : Nat} (hW : wf_ S) (hj : j < 4) (h1 : bl_ (j * 4) ≤ v) (h2 : v ≤ bh_ (j * 4)) : wf_ (cg_ S 7 0 j v) := by
  refine ⟨fun t ht => ?_, fun i' hi => ?_, fun i' hi => ?_, fun t ht h2 i' hi => ?_, fun i' hi => ?_, fun i' hi => ?_, ?_⟩
  · rw [cg_o (by omega)]; exact hW.1 t ht
  · rw [cg_o (by omega)] at hi
    rw [cg_o (by omega), cg_o (by omega), cg_o (by omega), cg_o (by omega)]; exact wf_s hW hi
  · rw [cg_o (by omega)] at hi
    rw [cg_o (by omega), cg_o (by omega), cg_o (by omega), cg_o (by omega), cg_o (by omega)]; exact wf_p hW hi
  · rw [cg_o (by omega)] at hi
    rw [cg_o (by omega)]; exact wf_t hW t ht h2 hi
  · rw [cg_o (by omega)] at hi
    rw [cg_o (by omega)]; exact wf_w hW hi
  · rw [cg_o (by omega)] at hi
    rw [cg_o (by omega), cg_o (by omega)]; exact wf_h hW hi
  · have hm := wf_m hW
    rcases (show j = 0 ∨ j = 1 ∨ j = 2 ∨ j = 3 by omega) with rfl | rfl | rfl | rfl
    · rw [cg_e, cg_o (by omega), cg_o (by omega), cg_o (by omega)]; exact ⟨h2, hm.2⟩
    · rw [cg_e, cg_o (by omega), cg_o (by omega), cg_o (by omega)]; exact ⟨hm.1, ⟨h1, h2⟩, hm.2.2⟩
    · rw [cg_e, cg_o (by omega), cg_o (by omega), cg_o (by omega)]; exact ⟨hm.1, hm.2.1, ⟨h1, h2⟩, hm.2.2.2⟩
    · rw [cg_e, cg_o (by omega), cg_o (by omega), cg_o (by omega)]; exact ⟨hm.1, hm.2.1, hm.2.2.1, h1, h2⟩
theorem mp_180 {k : Nat} {v : Int32} {P : Int32 → pu_D → Prop} (hk : k < 4) : pu_I X 180 [.ref 85, .int (nu_i k), .int v] D P = P (nu_b (rb_ v (bl_ (k * 4)) (bh_ (k * 4)))) D := by
  refine pu_I_of (pu_e180 ?_) P
  rcases (show k = 0 ∨ k = 1 ∨ k = 2 ∨ k = 3 by omega) with rfl | rfl | rfl | rfl
  · show if nu_i 0 = 0 then _ else _
    rw [if_pos (show nu_i 0 = (0 : Int32) from rfl)]
    by_cases h1 : v < 0
    · rw [if_pos h1, nu_bF (fun z => z.1 h1)]; exact ⟨rfl, by trivial⟩
    rw [if_neg h1]
    by_cases h2 : 999 < v
    · rw [if_pos h2, nu_bF (fun z => z.2 h2)]; exact ⟨rfl, by trivial⟩
    rw [if_neg h2, nu_bT ⟨h1, h2⟩]; exact ⟨rfl, by trivial⟩
  · rw [if_neg (show ¬ nu_i 1 = (0 : Int32) by decide)]
    by_cases h1 : v < 1
    · rw [if_pos h1, nu_bF (fun z => z.1 h1)]; exact ⟨rfl, by trivial⟩
    rw [if_neg h1, if_pos (show nu_i 1 = (1 : Int32) from rfl)]
    by_cases h2 : 99 < v
    · rw [if_pos h2, nu_bF (fun z => z.2 h2)]; exact ⟨rfl, by trivial⟩
    rw [if_neg h2, nu_bT ⟨h1, h2⟩]; exact ⟨rfl, by trivial⟩
  · rw [if_neg (show ¬ nu_i 2 = (0 : Int32) by decide)]
    by_cases h1 : v < 1
    · rw [if_pos h1, nu_bF (fun z => z.1 h1)]; exact ⟨rfl, by trivial⟩
    rw [if_neg h1, if_neg (show ¬ nu_i 2 = (1 : Int32) by decide), if_pos (show nu_i 2 = (2 : Int32) from rfl)]
    by_cases h2 : 12 < v
    · rw [if_pos h2, nu_bF (fun z => z.2 h2)]; exact ⟨rfl, by trivial⟩
    rw [if_neg h2, nu_bT ⟨h1, h2⟩]; exact ⟨rfl, by trivial⟩
  · rw [if_neg (show ¬ nu_i 3 = (0 : Int32) by decide)]
    by_cases h1 : v < 1
    · rw [if_pos h1, nu_bF (fun z => z.1 h1)]; exact ⟨rfl, by trivial⟩
    rw [if_neg h1, if_neg (show ¬ nu_i 3 = (1 : Int32) by decide), if_neg (show ¬ nu_i 3 = (2 : Int32) by decide), if_pos (show nu_i 3 = (3 : Int32) from rfl)]
    by_cases h2 : 60 < v
    · rw [if_pos h2, nu_bF (fun z => z.2 h2)]; exact ⟨rfl, by trivial⟩
    rw [if_neg h2, nu_bT ⟨h1, h2⟩]; exact ⟨rfl, by trivial⟩
theorem mp_181 {k : Nat} {v : Int32} {P : Int32 → pu_D → Prop} (hk : k < 4) : pu_I X 181 [.ref 85, .int (nu_i k), .int v] D P = P (D.1 85 (7 + k)) (pu_wi D 85 (7 + k) v) := by
  refine pu_I_of (pu_e181 ?_) P
  rcases (show k = 0 ∨ k = 1 ∨ k = 2 ∨ k = 3 by omega) with rfl | rfl | rfl | rfl
  · simp only [show nu_i 0 = (0 : Int32) from rfl, if_true]; exact ⟨by trivial, by trivial⟩
  · simp only [show ¬ nu_i 1 = (0 : Int32) by decide, show nu_i 1 = (1 : Int32) from rfl, if_true, if_false]
    simp only [show ¬ (1 : Int32) = 0 by decide, if_false, if_true]; exact ⟨by trivial, by trivial⟩
  · simp only [show nu_i 2 = (2 : Int32) from rfl, show ¬ (2 : Int32) = 0 by decide, show ¬ (2 : Int32) = 1 by decide, if_false, if_true]; exact ⟨by trivial, by trivial⟩
  · simp only [show nu_i 3 = (3 : Int32) from rfl, show ¬ (3 : Int32) = 0 by decide, show ¬ (3 : Int32) = 1 by decide, show ¬ (3 : Int32) = 2 by decide, if_false, if_true]; exact ⟨by trivial, by trivial⟩
theorem oq_99 (h : rel_ D) {x1 x2 : Int32} : op_ X D 99 [.ref 0, .int x1, .int x2] 182 [.ref 85, .int x1, .int x2] := by
  obtain ⟨S, hr⟩ := h
  obtain ⟨hW, hC, hM, -⟩ := id hr
  refine pu_e99 ?_
  simp only [sp_130_6]
  have bad : (∀ D1 : pu_D, ∀ P, pu_I X 180 [.ref 85, .int x1, .int x2] D1 P = P 0 D1) → pu_I X 182 [.ref 85, .int x1, .int x2] (rf_ D 6) (fun y2 D2 => -6 = y2 ∧ rel_ D2) := by
    intro hb
    refine pu_e182 ?_
    rw [hb, if_pos rfl, mp_149_6]
    exact ⟨rfl, S, rx_rf hr⟩
  have out : (¬ x1 = 0 ∧ ¬ x1 = 1 ∧ ¬ x1 = 2 ∧ ¬ x1 = 3) → ∀ D1 : pu_D, ∀ P, pu_I X 180 [.ref 85, .int x1, .int x2] D1 P = P 0 D1 := by
    intro ⟨h0, h1, h2, h3⟩ D1 P
    refine pu_I_of (pu_e180 ?_) P
    simp only [h0, h1, h2, h3, if_false, ite_self]
    exact ⟨by trivial, by trivial⟩
  by_cases h1 : x1 < 0
  · rw [if_pos h1]
    exact bad (out ⟨fun z => by subst z; exact absurd h1 (by decide), fun z => by subst z; exact absurd h1 (by decide), fun z => by subst z; exact absurd h1 (by decide), fun z => by subst z; exact absurd h1 (by decide)⟩)
  rw [if_neg h1]
  by_cases h2 : 3 < x1
  · rw [if_pos h2]
    exact bad (out ⟨fun z => by subst z; exact absurd h2 (by decide), fun z => by subst z; exact absurd h2 (by decide), fun z => by subst z; exact absurd h2 (by decide), fun z => by subst z; exact absurd h2 (by decide)⟩)
  rw [if_neg h2]
  obtain ⟨k, -, hk, rfl⟩ := rb_e (lo := 0) (hi := 3) (by omega) (by omega) ⟨h1, h2⟩
  have e : ∀ P, pu_I X 145 [.int (nu_i k), .int 0, .int x2] D P = P (nu_b (rb_ x2 (bl_ (k * 4)) (bh_ (k * 4)))) D := fun P => sp_145 (t := k) (k := 0) (by omega) (by omega)
  rw [e]
  by_cases c : rb_ x2 (bl_ (k * 4)) (bh_ (k * 4))
  · rw [nu_bT c, if_neg (by decide), nu_in (by omega), nu_ix (by omega)]
    refine ⟨by omega, by omega, ?_⟩
    refine pu_e182 ?_
    rw [mp_180 (by omega), nu_bT c, if_neg (by decide), mp_181 (by omega)]
    have hbb : bh_ (k * 4) < 2147483648 ∧ bl_ (k * 4) < 2147483648 := by
      rcases (show k = 0 ∨ k = 1 ∨ k = 2 ∨ k = 3 by omega) with rfl | rfl | rfl | rfl <;> decide
    obtain ⟨v, b1, b2, rfl⟩ := rb_e hbb.1 hbb.2 c
    refine ⟨?_, _, rx_up hr (wf_cgm (j := k) hW (by omega) b1 b2) ?_ ?_ (ag_wi (ag_wi (ag_rf D) ?_) ?_)⟩
    · rw [wi_q (by omega), hC.2 k (by omega), hM.2 k (by omega)]
    · exact re_Cag (re_cm (b := 1) hC) (ag_wi (Z := fun q _ => q = 85) (ag_rf _) rfl) (fun q j z1 z2 z => by omega)
    · exact rm_cm (rm_ag hM (ag_wi (Z := fun q _ => q = 2) (ag_rf D) rfl) (fun q j z => by omega))
    · unfold yy_; omega
    · unfold yy_; omega
  · rw [nu_bF c, if_pos rfl]
    exact bad fun D1 P => by rw [mp_180 (by omega), nu_bF c]
end ST
