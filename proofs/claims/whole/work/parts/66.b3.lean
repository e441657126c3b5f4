/-! A NUMBER READ by the reference. -/
/-- the reference reads row n, of sz elements, at p -/
def ps_ (D : pu_D) (n sz p : Nat) : Prop := D.1 85 37 = nu_i (120 * n) ∧ D.1 85 38 = nu_i p ∧ D.1 85 39 = nu_i sz
section WD
variable {X : px_X} {D : pu_D}
theorem jv_ag {D' : pu_D} {n sz i : Nat} (h : D'.2 = D.2) : jv_ D' n sz i = jv_ D n sz i := by unfold jv_; rw [h]
theorem mp_185 {n sz p : Nat} {P : Int32 → pu_D → Prop} (hn : n < 8) (hs : sz ≤ 120) (hp : p ≤ 200) (h : ps_ D n sz p) : pu_I X 185 [.ref 85] D P = P (nu_b (rb_ (jv_ D n sz p) 48 57)) D := by
  obtain ⟨h1, h2, h3⟩ := h
  refine pu_I_of (pu_e185 ?_) P
  rw [h1, h2, h3]
  unfold jv_
  by_cases c : p < sz
  · rw [if_pos (nu_ltp (by omega) c), if_pos c, nu_add, nu_in (by omega), nu_ix (by omega)]
    refine ⟨by omega, ?_⟩
    by_cases g1 : Int64.toInt32 (D.2 108 (120 * n + p)) < 48
    · rw [if_pos g1, nu_bF (fun z => z.1 g1)]; exact ⟨rfl, by trivial⟩
    rw [if_neg g1]
    refine ⟨by omega, ?_⟩
    by_cases g2 : 57 < Int64.toInt32 (D.2 108 (120 * n + p))
    · rw [if_pos g2, nu_bF (fun z => z.2 g2)]; exact ⟨rfl, by trivial⟩
    rw [if_neg g2, nu_bT ⟨g1, g2⟩]; exact ⟨rfl, by trivial⟩
  · rw [if_neg (nu_ltx (by omega) c), if_neg c, nu_bF (by rintro ⟨z, -⟩; exact z (by decide))]; exact ⟨rfl, by trivial⟩
theorem mp_183 {x : Int32} {P : Int32 → pu_D → Prop} : pu_I X 183 [.ref 85, .int x] D P = P 0 (pu_wi D 85 41 x) := pu_I_of (pu_e183 ⟨rfl, rfl⟩) P
theorem mp_186 {n sz p : Nat} {x1 x2 : Int32} {P : Int32 → pu_D → Prop} (hn : n < 8) (hs : sz ≤ 120) (hp : p ≤ 190) (h : ps_ D n sz p) (H0 : ∀ D', (dn_ D n sz p = 0 ∨ vi_ D n sz p (dn_ D n sz p) < x1 ∨ x2 < vi_ D n sz p (dn_ D n sz p)) → ag_ (fun q j => q = 85 ∧ (j = 38 ∨ j = 40 ∨ j = 41)) D D' → D'.1 85 41 = nu_i p → P 0 D') (H1 : ∀ D', ¬ dn_ D n sz p = 0 → ¬ vi_ D n sz p (dn_ D n sz p) < x1 → ¬ x2 < vi_ D n sz p (dn_ D n sz p) → ag_ (fun q j => q = 85 ∧ (j = 38 ∨ j = 40)) D D' → ps_ D' n sz (p + dn_ D n sz p) → D'.1 85 40 = vi_ D n sz p (dn_ D n sz p) → P 1 D') : pu_I X 186 [.ref 85, .int x1, .int x2] D P := by
  have hle : dn_ D n sz p ≤ 3 := fi_le _ _
  have hat := fi_at (fun i => !decide (rb_ (jv_ D n sz (p + i)) 48 57)) 3
  have fin : ∀ (i : Nat) (D' : pu_D), i = dn_ D n sz p → ¬ i = 0 → ag_ (fun q j => q = 85 ∧ (j = 38 ∨ j = 40)) D D' → ps_ D' n sz (p + i) → D'.1 85 40 = vi_ D n sz p i → (if (D'.1 85 40) < x1 then (pu_I X 183 [.ref 85, .int (nu_i p)] D' (fun y8 D9 => if y8 = 0 then (P 0 D9) else (P 1 D9))) else (if x2 < (D'.1 85 40) then (pu_I X 183 [.ref 85, .int (nu_i p)] D' (fun y12 D13 => if y12 = 0 then (P 0 D13) else (P 1 D13))) else (P 1 D'))) := by
    intro i D' hi hz ha hps hv
    subst hi
    rw [hv]
    have ha2 : ag_ (fun q j => q = 85 ∧ (j = 38 ∨ j = 40 ∨ j = 41)) D (pu_wi D' 85 41 (nu_i p)) := ag_wi (ag_mo ha fun q j z => by omega) ⟨rfl, by omega⟩
    by_cases g1 : vi_ D n sz p (dn_ D n sz p) < x1
    · rw [if_pos g1, mp_183, if_pos rfl]; exact H0 _ (Or.inr (Or.inl g1)) ha2 wi_eq
    rw [if_neg g1]
    by_cases g2 : x2 < vi_ D n sz p (dn_ D n sz p)
    · rw [if_pos g2, mp_183, if_pos rfl]; exact H0 _ (Or.inr (Or.inr g2)) ha2 wi_eq
    rw [if_neg g2]
    exact H1 D' hz g1 g2 ha hps hv
  have key : ∀ (r i : Nat) (D' : pu_D), i + r = 3 → i ≤ dn_ D n sz p → ¬ dn_ D n sz p = 0 → ag_ (fun q j => q = 85 ∧ (j = 38 ∨ j = 40)) D D' → ps_ D' n sz (p + i) → D'.1 85 40 = vi_ D n sz p i → pu_h186_29 X x1 x2 (nu_i p) (nu_i i) D' P := by
    intro r
    induction r with
    | zero =>
      intro i D' hi hid hz ha hps hv
      refine pu_u186_29 ?_
      rw [if_neg (show ¬ nu_i i < (3 : Int32) from nu_ltx (b := 3) (by omega) (by omega))]
      exact fin i D' (by omega) (by omega) ha hps hv
    | succ r ih =>
      intro i D' hi hid hz ha hps hv
      refine pu_u186_29 ?_
      rw [if_pos (show nu_i i < (3 : Int32) from nu_ltp (b := 3) (by omega) (by omega)), mp_185 hn hs (by omega) hps, jv_ag ha.2]
      by_cases hd : i < dn_ D n sz p
      · have hb : rb_ (jv_ D n sz (p + i)) 48 57 := by
          have := hat.2 i hd
          exact of_decide_eq_true ((Bool.not_eq_false' _).mp this)
        have hlt : p + i < sz := by
          refine Decidable.byContradiction fun c => ?_
          unfold jv_ at hb
          rw [if_neg c] at hb
          exact hb.1 (by decide)
        obtain ⟨h1, h2, h3⟩ := hps
        rw [nu_bT hb, if_neg (by decide), h1, h2, nu_add, nu_in (by omega), nu_ix (by omega), hv, wi_j (by omega), h2, nu_addn, nu_addn, ha.2]
        refine ⟨by omega, ih (i + 1) _ (by omega) (by omega) hz (ag_wi (ag_wi ha ⟨rfl, by omega⟩) ⟨rfl, by omega⟩) ⟨?_, ?_, ?_⟩ ?_⟩
        · rw [wi_j (by omega), wi_j (by omega)]; exact h1
        · rw [wi_eq]; rfl
        · rw [wi_j (by omega), wi_j (by omega)]; exact h3
        · rw [wi_j (by omega), wi_eq]
          show 10 * vi_ D n sz p i + Int64.toInt32 (D.2 108 (120 * n + (p + i))) - 48 = vi_ D n sz p i * 10 + jv_ D n sz (p + i) - 48
          unfold jv_
          rw [if_pos hlt, Int32.mul_comm]
      · have hid2 : i = dn_ D n sz p := by omega
        have hb : ¬ rb_ (jv_ D n sz (p + i)) 48 57 := by
          have := hat.1 (show dn_ D n sz p < 3 by omega)
          rw [hid2]
          exact of_decide_eq_false ((Bool.not_eq_true' _).mp this)
        rw [nu_bF hb, if_pos rfl]
        exact fin i D' hid2 (by omega) ha hps hv
  have a0 : ag_ (fun q j => q = 85 ∧ (j = 38 ∨ j = 40)) D (pu_wi D 85 40 0) := ag_wi (ag_rf D) ⟨rfl, by omega⟩
  have ps0 : ps_ (pu_wi D 85 40 0) n sz p := ⟨by rw [wi_j (by omega)]; exact h.1, by rw [wi_j (by omega)]; exact h.2.1, by rw [wi_j (by omega)]; exact h.2.2⟩
  refine pu_e186 ?_
  rw [mp_185 hn hs (by omega) ps0, jv_ag a0.2, ps0.2.1]
  by_cases hz : dn_ D n sz p = 0
  · have hb : ¬ rb_ (jv_ D n sz p) 48 57 := by
      have := hat.1 (show dn_ D n sz p < 3 by omega)
      have h2 : ¬ rb_ (jv_ D n sz (p + dn_ D n sz p)) 48 57 := of_decide_eq_false ((Bool.not_eq_true' _).mp this)
      rw [hz, Nat.add_zero] at h2
      exact h2
    rw [nu_bF hb, if_pos rfl, mp_183]
    exact ⟨by decide, H0 _ (Or.inl hz) (ag_wi (ag_mo a0 fun q j z => by omega) ⟨rfl, by omega⟩) wi_eq⟩
  · have hb : rb_ (jv_ D n sz p) 48 57 := by
      have := hat.2 0 (show 0 < dn_ D n sz p by omega)
      exact of_decide_eq_true ((Bool.not_eq_false' _).mp this)
    rw [nu_bT hb, if_neg (by decide), h.2.1]
    exact key 3 0 _ rfl (Nat.zero_le _) hz a0 ps0 wi_eq
end WD
