/-! A NUMBER READ by the class. -/
/-- how many digits stand at p, at most three; the number after i of them -/
def dn_ (D : pu_D) (n sz p : Nat) : Nat := fi_ (fun i => !decide (rb_ (jv_ D n sz (p + i)) 48 57)) 3
def vi_ (D : pu_D) (n sz p : Nat) : Nat → Int32
  | 0 => 0
  | i + 1 => vi_ D n sz p i * 10 + jv_ D n sz (p + i) - 48
section WD
variable {X : px_X} {D : pu_D}
theorem sp_77 {n so sz p w k : Nat} {P : Int32 → pu_D → Prop} (hn : n < 8) (h : ro_ D n so sz) (hp : p ≤ 200) (hw : w < 11) (hk : k < 4) (h0 : D.1 50 1 = nu_i p) (H0 : (dn_ D n sz p = 0 ∨ ¬ rb_ (vi_ D n sz p (dn_ D n sz p)) (bl_ (w * 4 + k)) (bh_ (w * 4 + k))) → P 0 D) (H1 : ¬ dn_ D n sz p = 0 → rb_ (vi_ D n sz p (dn_ D n sz p)) (bl_ (w * 4 + k)) (bh_ (w * 4 + k)) → P 1 (pu_wi (pu_wi D 51 k (vi_ D n sz p (dn_ D n sz p))) 50 1 (nu_i (p + dn_ D n sz p)))) : pu_I X 77 [.ref 50, .ref (69 + 2 * n), .int (nu_i w), .int (nu_i k)] D P := by
  obtain ⟨s1, s2, s3⟩ := sv_ hn
  have k4 : nu_i k < (4 : Int32) := nu_ltp (b := 4) (by omega) hk
  have hle : dn_ D n sz p ≤ 3 := fi_le _ _
  have hat := fi_at (fun i => !decide (rb_ (jv_ D n sz (p + i)) 48 57)) 3
  -- the end at i digits
  have fin : ∀ i, i = dn_ D n sz p → (if nu_i i = 0 then P 0 D else if nu_i k < 4 then pu_I X 145 [.int (nu_i w), .int (nu_i k), .int (vi_ D n sz p i)] D (fun y4 D5 => if y4 = 0 then P 0 D5 else px_in (nu_i k) 4 = true ∧ P 1 (pu_wi (pu_wi D5 51 (nu_i k).toNatClampNeg (vi_ D n sz p i)) 50 1 (((pu_wi D5 51 (nu_i k).toNatClampNeg (vi_ D n sz p i)).1 50 1) + nu_i i))) else P 0 D) := by
    intro i hi
    subst hi
    by_cases hz : dn_ D n sz p = 0
    · rw [if_pos (by rw [hz]; rfl)]; exact H0 (Or.inl hz)
    rw [if_neg (show ¬ nu_i (dn_ D n sz p) = (0 : Int32) by rw [show (0 : Int32) = nu_i 0 from rfl, nu_eq (by omega) (by omega)]; exact hz), if_pos k4, sp_145 hw hk]
    by_cases hb : rb_ (vi_ D n sz p (dn_ D n sz p)) (bl_ (w * 4 + k)) (bh_ (w * 4 + k))
    · rw [nu_bT hb, if_neg (by decide), nu_in (by omega), nu_ix (by omega), wi_q (by omega), h0, nu_add]
      exact ⟨hk, H1 hz hb⟩
    · rw [nu_bF hb, if_pos rfl]; exact H0 (Or.inr hb)
  have key : ∀ r i, i + r = 3 → i ≤ dn_ D n sz p → pu_h77_6 X (69 + 2 * n) (nu_i w) (nu_i k) (vi_ D n sz p i) (nu_i i) D P := by
    intro r
    induction r with
    | zero =>
      intro i hi hid
      have hi3 : i = 3 := by omega
      refine pu_u77_6 s2 ?_
      rw [if_neg (show ¬ nu_i i < (3 : Int32) from nu_ltx (b := 3) (by omega) (by omega))]
      exact fin i (by omega)
    | succ r ih =>
      intro i hi hid
      refine pu_u77_6 s2 ?_
      rw [if_pos (show nu_i i < (3 : Int32) from nu_ltp (b := 3) (by omega) (by omega)), h0, nu_add, sp_40g hn h (by omega), sp_78]
      by_cases hd : i < dn_ D n sz p
      · have hb : rb_ (jv_ D n sz (p + i)) 48 57 := by
          have := hat.2 i hd
          exact of_decide_eq_true ((Bool.not_eq_false' _).mp this)
        rw [nu_bT hb, if_neg (by decide), h0, nu_add, sp_40g hn h (by omega), nu_addn]
        exact ih (i + 1) (by omega) (by omega)
      · have hid2 : i = dn_ D n sz p := by omega
        have hb : ¬ rb_ (jv_ D n sz (p + i)) 48 57 := by
          have := hat.1 (show dn_ D n sz p < 3 by omega)
          rw [hid2]
          exact of_decide_eq_false ((Bool.not_eq_true' _).mp this)
        rw [nu_bF hb, if_pos rfl]
        exact fin i hid2
  exact pu_e77 s2 (key 3 0 rfl (Nat.zero_le _))
theorem sp_258 {P : pu_D → Prop} (hP : ∀ D', ag_ (fun q _ => q = 51) D D' → (∀ j, j < 4 → D'.1 51 j = 0) → P D') : pu_V X 258 [.ref 51, .int 0] D P := by
  have hl : pu_ln 51 = 4 := by decide +kernel
  refine pu_e258 (by decide +kernel) ?_
  rw [hl]
  refine lo_ix (fun a x => pu_h258_5 X 51 0 x (Int32.ofNat 4) a P) 4 (iw_ D 51 0 (fun _ => 0)) (fun i hi hh => ?_) ?_
  · refine pu_u258_5 (by decide +kernel) ?_
    rw [if_pos (show nu_i i < Int32.ofNat 4 from nu_ltp (by omega) hi), nu_in (by omega), nu_ix (by omega), hl]
    rw [iw_, Nat.zero_add] at hh
    refine ⟨hi, ?_⟩
    rw [nu_addn]; exact hh
  · refine pu_u258_5 (by decide +kernel) ?_
    rw [if_neg (show ¬ nu_i 4 < Int32.ofNat 4 from nu_ltx (by omega) (by omega))]
    refine hP _ ⟨fun q j z => ?_, iw_2 4⟩ fun j hj => ?_
    · rw [iw_1, if_neg (fun y => z y.1)]
    · rw [iw_1, if_pos (by omega)]
end WD
