/-! CALLS THAT CHOOSE. -/
theorem nu_ltp {a b : Nat} (hb : b < 2147483648) (h : a < b) : nu_i a < nu_i b := by rw [nu_lt (by omega) hb]; exact h
theorem nu_ltx {a b : Nat} (ha : a < 2147483648) (h : ¬ a < b) : ¬ nu_i a < nu_i b := by rw [nu_lt ha (by omega)]; exact h
section OP
variable {X : px_X} {S : Nat → Nat → Nat → Nat} {D : pu_D}
theorem zz_ch : ∀ q j : Nat, 56 ≤ q ∧ q ≤ 65 → zz_ q j := fun q j h => by unfold zz_; omega
theorem zz_65 : ∀ q j : Nat, q = 65 → zz_ q j := fun q j h => by unfold zz_; omega
theorem zz_zs : ∀ q j : Nat, zs_ q j → zz_ q j := fun q j h => by unfold zs_ at h; unfold zz_; omega
theorem zz_zj : ∀ q j : Nat, zj_ q j → zz_ q j := fun q j h => by unfold zj_ at h; unfold zz_; omega
theorem p2_le (hW : wf_ S) : 2 ^ S 8 0 1 ≤ 512 := show (2 : Nat) ^ S 8 0 1 ≤ 2 ^ 9 from Nat.pow_le_pow_right (by decide) (wf_n hW).2.1
theorem oq_110 (h : rel_ D) {x1 x2 : Int32} : op_ X D 110 [.ref 0, .int x1, .int x2] 216 [.ref 85, .int x1, .int x2] := by
  obtain ⟨S, hr⟩ := h
  obtain ⟨hW, hC, hM, -⟩ := id hr
  have hn := wf_n hW
  have hp := p2_le hW
  refine pu_e110 ?_
  rw [sp_81a hC]
  by_cases c2 : rg_ x2 (S 8 0 0)
  · rw [nu_bT c2, if_neg (by decide), sp_51b hC hW]
    by_cases c1 : rg_ x1 (2 ^ S 8 0 1)
    · obtain ⟨s, hs, rfl⟩ := rg_e (by omega) c2
      obtain ⟨t, ht, rfl⟩ := rg_e (by omega) c1
      rw [nu_bT c1, if_neg (by decide), sp_69 hC hW (by omega) hs]
      refine pu_e216 ?_
      rw [mp_153 hM, nu_bT c2, if_neg (by decide), mp_155 hM hW, nu_bT c1, if_neg (by decide), mp_215 hM hW (by omega) hs]
      exact ⟨rfl, S, hr⟩
    · rw [nu_bF c1, if_pos rfl, sp_130_1]
      have hr1 := rx_rf (k := 1) hr
      refine pu_e216 ?_
      have hM1 : re_M S (rf_ D 1) := rm_ag hM (ag_wi (Z := fun q _ => q = 68) (ag_rf D) rfl) (fun q j z => by omega)
      rw [mp_153 hM1, nu_bT c2, if_neg (by decide), mp_155 hM1 hW, nu_bF c1, if_pos rfl, mp_149_1]
      exact ⟨rfl, S, hr1⟩
  · rw [nu_bF c2, if_pos rfl, sp_130_1]
    refine pu_e216 ?_
    have hM1 : re_M S (rf_ D 1) := rm_ag hM (ag_wi (Z := fun q _ => q = 68) (ag_rf D) rfl) (fun q j z => by omega)
    rw [mp_153 hM1, nu_bF c2, if_pos rfl, mp_149_1]
    exact ⟨rfl, S, rx_rf hr⟩
theorem rm_rf {k : Nat} (hM : re_M S D) : re_M S (rf_ D k) := rm_ag hM (ag_wi (Z := fun q _ => q = 68) (ag_rf D) rfl) (fun q j z => by omega)
/-- told / chosen -/
theorem oq_135 (h : rel_ D) {x1 x2 : Int32} {w : Nat} (hw : w < 3) : pu_I X 135 [.ref 0, .int x1, .int x2, .int (nu_i w)] D (fun y1 D1 => pu_I X 221 [.ref 85, .int x1, .int x2, .int (nu_i w)] D1 (fun y2 D2 => y1 = y2 ∧ rel_ D2)) := by
  obtain ⟨S, hr⟩ := h
  obtain ⟨hW, hC, hM, -⟩ := id hr
  have hn := wf_n hW
  have hp := p2_le hW
  refine pu_e135 ?_
  rw [sp_81a hC]
  by_cases c1 : rg_ x1 (S 8 0 0)
  · rw [nu_bT c1, if_neg (by decide), sp_140b]
    by_cases c2 : rg_ x2 12
    · rw [nu_bT c2, if_neg (by decide)]
      obtain ⟨s, hs, rfl⟩ := rg_e (by omega) c1
      obtain ⟨m, hm, rfl⟩ := rg_e (by omega) c2
      refine sp_9 hC hW hs hm fun D1 a1 g1 => ?_
      have hC1 := re_Z hC a1 (fun q j hz => by omega)
      refine sp_10 hC1 hW g1 hs hw fun D2 a2 => ?_
      have ha := ag_tr (ag_mo a1 zz_ch) (ag_mo a2 zz_65)
      have hr2 := rx_ag hr ha
      have hble := bx_le (S := S) (s := s) (m := m) (w := w) (i := 2 ^ S 8 0 1)
      by_cases h0 : bx_ S s m w (2 ^ S 8 0 1) = 0
      · rw [h0, nu_l0, if_pos rfl, sp_130_5]
        refine pu_e221 ?_
        have hM2 := rm_rf (k := 5) hr2.2.2.1
        rw [mp_153 hM2, nu_bT c1, if_neg (by decide), mp_156, nu_bT c2, if_neg (by decide)]
        refine mp_220 hM2 hW hs hm hw fun D3 a3 => ?_
        rw [h0, nu_l0, if_pos rfl, mp_149_5]
        refine ⟨rfl, S, ?_⟩
        -- the refusal is counted behind the search
        have e68 : ∀ q j, q = 68 → D3.1 q j = (rf_ D2 5).1 q j := fun q j hq => a3.1 _ _ (by unfold zs_; omega)
        have hx := rx_rf (k := 5) hr2
        refine rx_ag hx ?_
        have a4 := ag_mo a3 zz_zs
        refine ⟨fun q j hz => ?_, a3.2⟩
        unfold rn_
        rw [wi_if, wi_if, a4.1 86 5 (by unfold zz_; omega)]
        split
        · rfl
        · exact a4.1 q j hz
      · rw [if_neg (by rw [nu_lm (by omega)]; exact h0)]
        refine pu_e221 ?_
        have hM2 := hr2.2.2.1
        rw [mp_153 hM2, nu_bT c1, if_neg (by decide), mp_156, nu_bT c2, if_neg (by decide)]
        refine mp_220 hM2 hW hs hm hw fun D3 a3 => ?_
        rw [if_neg (by rw [nu_lm (by omega)]; exact h0)]
        exact ⟨rfl, S, rx_ag hr2 (ag_mo a3 zz_zs)⟩
    · rw [nu_bF c2, if_pos rfl, sp_130_6]
      refine pu_e221 ?_
      rw [mp_153 (rm_rf hM), nu_bT c1, if_neg (by decide), mp_156, nu_bF c2, if_pos rfl, mp_149_6]
      exact ⟨rfl, S, rx_rf hr⟩
  · rw [nu_bF c1, if_pos rfl, sp_130_1]
    refine pu_e221 ?_
    rw [mp_153 (rm_rf hM), nu_bF c1, if_pos rfl, mp_149_1]
    exact ⟨rfl, S, rx_rf hr⟩
theorem oq_111 (h : rel_ D) {x1 x2 : Int32} : op_ X D 111 [.ref 0, .int x1, .int x2] 222 [.ref 85, .int x1, .int x2] :=
  pu_e111 (pu_I_imp (oq_135 h (w := 0) (by omega)) fun _ _ h2 => pu_e222 h2)
theorem oq_112 (h : rel_ D) {x1 x2 : Int32} : op_ X D 112 [.ref 0, .int x1, .int x2] 223 [.ref 85, .int x1, .int x2] :=
  pu_e112 (pu_I_imp (oq_135 h (w := 1) (by omega)) fun _ _ h2 => pu_e223 h2)
theorem oq_113 (h : rel_ D) {x1 x2 : Int32} : op_ X D 113 [.ref 0, .int x1, .int x2] 224 [.ref 85, .int x1, .int x2] :=
  pu_e113 (pu_I_imp (oq_135 h (w := 2) (by omega)) fun _ _ h2 => pu_e224 h2)
/-- which: (sort + 1, coin) -/
def wh_ (S : Nat → Nat → Nat → Nat) (m : Nat) (n : Nat) : Nat × Nat := fo_ (fun s r => if bx_ S s m 0 (2 ^ S 8 0 1) = 0 then r else if r.1 = 0 ∨ co_ S (bx_ S s m 0 (2 ^ S 8 0 1) - 1) s < r.2 then (s + 1, co_ S (bx_ S s m 0 (2 ^ S 8 0 1) - 1) s) else r) n (0, 0)
theorem wh_succ {m n : Nat} : wh_ S m (n + 1) = (if bx_ S n m 0 (2 ^ S 8 0 1) = 0 then wh_ S m n else if (wh_ S m n).1 = 0 ∨ co_ S (bx_ S n m 0 (2 ^ S 8 0 1) - 1) n < (wh_ S m n).2 then (n + 1, co_ S (bx_ S n m 0 (2 ^ S 8 0 1) - 1) n) else wh_ S m n) := rfl
theorem co_le (hW : wf_ S) {set s : Nat} (hs : s < S 8 0 0) : co_ S set s ≤ 1782 := by
  have hn := wf_n hW
  have : co_ S set s ≤ S 8 0 1 * 198 := su_le fun p hp => by
    have hv := wf_p hW hp
    have hvs := wf_s hW hs
    split <;> omega
  omega
theorem wh_le (hW : wf_ S) {m n : Nat} (hn : n ≤ S 8 0 0) : (wh_ S m n).1 ≤ n ∧ (wh_ S m n).2 ≤ 1782 := by
  induction n with
  | zero => exact ⟨Nat.le_refl _, Nat.zero_le _⟩
  | succ n ih =>
    have ih := ih (by omega)
    rw [wh_succ]
    split
    · exact ⟨by omega, ih.2⟩
    · split
      · exact ⟨Nat.le_refl _, co_le hW (by omega)⟩
      · exact ⟨by omega, ih.2⟩
theorem oq_115 (h : rel_ D) {x1 : Int32} : op_ X D 115 [.ref 0, .int x1] 226 [.ref 85, .int x1] := by
  obtain ⟨S, hr⟩ := h
  obtain ⟨hW, hC, hM, -⟩ := id hr
  have hn := wf_n hW
  have hp := p2_le hW
  refine pu_e115 ?_
  rw [sp_140b]
  by_cases c1 : rg_ x1 12
  · obtain ⟨m, hm, rfl⟩ := rg_e (by omega) c1
    rw [nu_bT c1, if_neg (by decide)]
    have hwl := wh_le hW (m := m) (Nat.le_refl (S 8 0 0))
    have hmo : ∀ D1, rx_ S D1 ∨ (∃ D0, rx_ S D0 ∧ D1 = rf_ D0 5) → ∀ (P : Int32 → pu_D → Prop), (∀ D2, ag_ zz_ D1 D2 → if (wh_ S m (S 8 0 0)).1 = 0 then pu_I X 149 [.ref 85, .int (-5)] D2 P else P (nu_l (wh_ S m (S 8 0 0)).1) D2) → pu_I X 226 [.ref 85, .int (nu_i m)] D1 P := by
      intro D1 hD1 P hP
      have hM1 : re_M S D1 := by
        rcases hD1 with h1 | ⟨D0, h1, rfl⟩
        · exact h1.2.2.1
        · exact rm_rf h1.2.2.1
      refine pu_e226 ?_
      rw [mp_156, nu_bT c1, if_neg (by decide)]
      refine lo_S (fun i (r : (Nat × Nat) × pu_D) => r.1 = wh_ S m i ∧ ag_ zs_ D1 r.2) (fun r x => pu_h226_22 X (nu_i m) (nu_l r.1.1) (nu_i r.1.2) x r.2 P) (S 8 0 0) ((0, 0), D1) ⟨rfl, ag_rf D1⟩ (fun i r hi hI hk2 => ?_) (fun r hI => ?_)
      · obtain ⟨⟨b, c⟩, D'⟩ := r
        obtain ⟨hb, a1⟩ := hI
        dsimp only at hb a1
        have hM' := rm_ag hM1 a1 zs_m
        obtain ⟨c0, -⟩ := rm_n hM'
        have hle := wh_le hW (m := m) (Nat.le_of_lt hi)
        have hsucc := wh_succ (S := S) (m := m) (n := i)
        rw [← hb] at hle hsucc
        dsimp only at hle
        refine pu_u226_22 ?_
        dsimp only
        rw [c0, if_pos (nu_ltp (by omega) hi)]
        refine mp_220 hM' hW (w := 0) hi hm (by omega) fun D2 a2 => ?_
        have hM2 := rm_ag hM' a2 zs_m
        have hble := bx_le (S := S) (s := i) (m := m) (w := 0) (i := 2 ^ S 8 0 1)
        have hco := co_le hW (set := bx_ S i m 0 (2 ^ S 8 0 1) - 1) hi
        rw [nu_addn]
        by_cases h0 : bx_ S i m 0 (2 ^ S 8 0 1) = 0
        · rw [if_pos h0] at hsucc
          rw [h0, nu_l0, if_pos rfl]
          exact hk2 ((b, c), D2) ⟨hsucc.symm, ag_tr a1 a2⟩
        · rw [if_neg h0] at hsucc
          rw [if_neg (by rw [nu_lm (by omega)]; exact h0), nu_lp h0, mp_215 hM2 hW (by omega) hi]
          by_cases hb0 : b = 0
          · rw [if_pos (by rw [hb0]; rfl)]
            rw [if_pos (Or.inl hb0)] at hsucc
            exact hk2 ((i + 1, _), D2) ⟨hsucc.symm, ag_tr a1 a2⟩
          · rw [if_neg (by rw [nu_lm (by omega)]; exact hb0)]
            by_cases hc : co_ S (bx_ S i m 0 (2 ^ S 8 0 1) - 1) i < c
            · rw [if_pos (nu_ltp (by omega) hc)]
              rw [if_pos (Or.inr hc)] at hsucc
              exact hk2 ((i + 1, _), D2) ⟨hsucc.symm, ag_tr a1 a2⟩
            · rw [if_neg (nu_ltx (by omega) hc)]
              rw [if_neg (fun z => z.elim hb0 hc)] at hsucc
              exact hk2 ((b, c), D2) ⟨hsucc.symm, ag_tr a1 a2⟩
      · obtain ⟨⟨b, c⟩, D'⟩ := r
        obtain ⟨hb, a1⟩ := hI
        dsimp only at hb a1
        have hM' := rm_ag hM1 a1 zs_m
        obtain ⟨c0, -⟩ := rm_n hM'
        have hP2 := hP D' (ag_mo a1 zz_zs)
        rw [← hb] at hP2 hwl
        dsimp only at hP2 hwl
        refine pu_u226_22 ?_
        dsimp only
        rw [c0, if_neg (nu_ltx (by omega) (Nat.lt_irrefl _))]
        by_cases hb0 : b = 0
        · rw [if_pos (by rw [hb0]; rfl)]; rw [if_pos hb0] at hP2; exact hP2
        · rw [if_neg (by rw [nu_lm (by omega)]; exact hb0)]; rw [if_neg hb0] at hP2; exact hP2
    refine lo_S (fun i (r : (Nat × Nat) × pu_D) => r.1 = wh_ S m i ∧ ag_ zz_ D r.2) (fun r x => pu_h115_21 X (nu_i m) (nu_l r.1.1) (nu_i r.1.2) x r.2 _) (S 8 0 0) ((0, 0), D) ⟨rfl, ag_rf D⟩ (fun i r hi hI hk2 => ?_) (fun r hI => ?_)
    · obtain ⟨⟨b, c⟩, D'⟩ := r
      obtain ⟨hb, a1⟩ := hI
      dsimp only at hb a1
      have hr1 := rx_ag hr a1
      have hC1 := hr1.2.1
      have hle := wh_le hW (m := m) (Nat.le_of_lt hi)
      have hsucc := wh_succ (S := S) (m := m) (n := i)
      rw [← hb] at hle hsucc
      dsimp only at hle
      refine pu_u115_21 ?_
      dsimp only
      rw [(re_n hC1).1, if_pos (nu_ltp (by omega) hi)]
      refine sp_9 hC1 hW hi hm fun D2 a2 g2 => ?_
      have hC2 := re_Z hC1 a2 (fun q j hz => by omega)
      refine sp_10 hC2 hW (w := 0) g2 hi (by omega) fun D3 a3 => ?_
      have hC3 := re_Z hC2 a3 (fun q j hz => by omega)
      have a4 := ag_tr a1 (ag_tr (ag_mo a2 zz_ch) (ag_mo a3 zz_65))
      have hble := bx_le (S := S) (s := i) (m := m) (w := 0) (i := 2 ^ S 8 0 1)
      have hco := co_le hW (set := bx_ S i m 0 (2 ^ S 8 0 1) - 1) hi
      rw [nu_addn]
      by_cases h0 : bx_ S i m 0 (2 ^ S 8 0 1) = 0
      · rw [if_pos h0] at hsucc
        rw [h0, nu_l0, if_pos rfl]
        exact hk2 ((b, c), D3) ⟨hsucc.symm, a4⟩
      · rw [if_neg h0] at hsucc
        rw [if_neg (by rw [nu_lm (by omega)]; exact h0), nu_lp h0, sp_69 hC3 hW (by omega) hi]
        by_cases hb0 : b = 0
        · rw [if_pos (by rw [hb0]; rfl)]
          rw [if_pos (Or.inl hb0)] at hsucc
          exact hk2 ((i + 1, _), D3) ⟨hsucc.symm, a4⟩
        · rw [if_neg (by rw [nu_lm (by omega)]; exact hb0)]
          by_cases hc : co_ S (bx_ S i m 0 (2 ^ S 8 0 1) - 1) i < c
          · rw [if_pos (nu_ltp (by omega) hc)]
            rw [if_pos (Or.inr hc)] at hsucc
            exact hk2 ((i + 1, _), D3) ⟨hsucc.symm, a4⟩
          · rw [if_neg (nu_ltx (by omega) hc)]
            rw [if_neg (fun z => z.elim hb0 hc)] at hsucc
            exact hk2 ((b, c), D3) ⟨hsucc.symm, a4⟩
    · obtain ⟨⟨b, c⟩, D'⟩ := r
      obtain ⟨hb, a1⟩ := hI
      dsimp only at hb a1
      have hr1 := rx_ag hr a1
      have hC1 := hr1.2.1
      rw [← hb] at hwl hmo
      dsimp only at hwl hmo
      refine pu_u115_21 ?_
      dsimp only
      rw [(re_n hC1).1, if_neg (nu_ltx (by omega) (Nat.lt_irrefl _))]
      by_cases hb0 : b = 0
      · rw [if_pos (by rw [hb0]; rfl), sp_130_5]
        refine hmo _ (Or.inr ⟨D', hr1, rfl⟩) _ fun D2 a2 => ?_
        rw [if_pos hb0, mp_149_5]
        refine ⟨rfl, S, ?_⟩
        refine rx_ag (rx_rf (k := 5) hr1) ⟨fun q j hz => ?_, a2.2⟩
        unfold rn_
        rw [wi_if, wi_if, a2.1 86 5 (by unfold zz_; omega)]
        split
        · rfl
        · exact a2.1 q j hz
      · rw [if_neg (by rw [nu_lm (by omega)]; exact hb0)]
        refine hmo _ (Or.inl hr1) _ fun D2 a2 => ?_
        rw [if_neg hb0]
        exact ⟨rfl, S, rx_ag hr1 a2⟩
  · rw [nu_bF c1, if_pos rfl, sp_130_6]
    refine pu_e226 ?_
    rw [mp_156, nu_bF c1, if_pos rfl, mp_149_6]
    exact ⟨rfl, S, rx_rf hr⟩
/-- reach -/
def rc_ (S : Nat → Nat → Nat → Nat) (s n : Nat) : Nat := fo_ (fun d b => if ba_ S s (d * d) < S 7 0 0 then b else d + 1) n 0
theorem oq_116 (h : rel_ D) {x1 : Int32} : op_ X D 116 [.ref 0, .int x1] 227 [.ref 85, .int x1] := by
  obtain ⟨S, hr⟩ := h
  obtain ⟨hW, hC, hM, -⟩ := id hr
  have hn := wf_n hW
  have hMM := wf_m hW
  refine pu_e116 ?_
  rw [sp_81a hC]
  by_cases c1 : rg_ x1 (S 8 0 0)
  · obtain ⟨s, hs, rfl⟩ := rg_e (by omega) c1
    have hvs := wf_s hW hs
    rw [nu_bT c1, if_neg (by decide)]
    refine lo_ix (fun b x => pu_h116_24 X (nu_i s) (nu_l b) x D _) 60 (rc_ S s) (fun d hd hy => ?_) ?_
    · have hdd : d * d ≤ 59 * 59 := Nat.mul_le_mul (by omega) (by omega)
      have hb := ba_le hW (sq := d * d) hs
      obtain ⟨m0, -⟩ := re_m hC
      refine pu_u116_24 ?_
      rw [if_pos (show nu_i d < (60 : Int32) from nu_ltp (b := 60) (by omega) hd), nu_mul, sp_60 hC hW hs (by omega), m0, nu_addn]
      have e : rc_ S s (d + 1) = (if ba_ S s (d * d) < S 7 0 0 then rc_ S s d else d + 1) := rfl
      rw [e] at hy
      by_cases h3 : ba_ S s (d * d) < S 7 0 0
      · rw [if_pos (nu_ltp (by omega) h3)]; rw [if_pos h3] at hy; exact hy
      · rw [if_neg (nu_ltx (by omega) h3)]; rw [if_neg h3, nu_lS] at hy; exact hy
    · refine pu_u116_24 ?_
      rw [if_neg (show ¬ nu_i 60 < (60 : Int32) from nu_ltx (b := 60) (by omega) (Nat.lt_irrefl _))]
      refine pu_e227 ?_
      rw [mp_153 hM, nu_bT c1, if_neg (by decide)]
      refine lo_ix (fun b x => pu_h227_18 X (nu_i s) (nu_l b) x D _) 60 (rc_ S s) (fun d hd hy => ?_) ?_
      · have hdd : d * d ≤ 59 * 59 := Nat.mul_le_mul (by omega) (by omega)
        have hb := ba_le hW (sq := d * d) hs
        have h1 : 1 * 1 ≤ S 0 s 0 * S 0 s 0 := Nat.mul_le_mul hvs.1.1 hvs.1.1
        have h2 : S 0 s 0 * S 0 s 0 ≤ 12 * 12 := Nat.mul_le_mul hvs.1.2 hvs.1.2
        obtain ⟨m0, -⟩ := rm_m hM
        refine pu_u227_18 ?_
        have e : rc_ S s (d + 1) = (if ba_ S s (d * d) < S 7 0 0 then rc_ S s d else d + 1) := rfl
        rw [e] at hy
        simp (disch := omega) only [nu_ltn, hd, if_true, nu_in, nu_ix, mc_87 hM, mc_88 hM, nu_mul, nu_add, nu_eqn, nu_nmul, nu_div, m0, nu_addn]
        refine ⟨by omega, by omega, by omega, by omega, ?_⟩
        change if nu_i (ba_ S s (d * d)) < nu_i (S 7 0 0) then _ else _
        by_cases h3 : ba_ S s (d * d) < S 7 0 0
        · rw [if_pos (nu_ltp (by omega) h3)]; rw [if_pos h3] at hy; exact hy
        · rw [if_neg (nu_ltx (by omega) h3)]; rw [if_neg h3, nu_lS] at hy; exact hy
      · refine pu_u227_18 ?_
        rw [if_neg (show ¬ nu_i 60 < (60 : Int32) from nu_ltx (b := 60) (by omega) (Nat.lt_irrefl _))]
        exact ⟨rfl, S, hr⟩
  · rw [nu_bF c1, if_pos rfl, sp_131_1]
    refine pu_e227 ?_
    rw [mp_153 (rm_rf hM), nu_bF c1, if_pos rfl, mp_150_1]
    exact ⟨rfl, S, rx_rf hr⟩
/-- moved -/
theorem oq_122 (h : rel_ D) {x1 x2 : Int32} : op_ X D 122 [.ref 0, .int x1, .int x2] 233 [.ref 85, .int x1, .int x2] := by
  obtain ⟨S, hr⟩ := h
  obtain ⟨hW, hC, hM, -⟩ := id hr
  have hn := wf_n hW
  have hp := p2_le hW
  refine pu_e122 ?_
  rw [sp_81a hC]
  by_cases c2 : rg_ x2 (S 8 0 0)
  · rw [nu_bT c2, if_neg (by decide), sp_51b hC hW]
    by_cases c1 : rg_ x1 (2 ^ S 8 0 1)
    · obtain ⟨s, hs, rfl⟩ := rg_e (by omega) c2
      obtain ⟨t, ht, rfl⟩ := rg_e (by omega) c1
      rw [nu_bT c1, if_neg (by decide)]
      have elp : ∀ p, p < S 8 0 1 → (nu_l (S 1 p 2) = nu_i s) = (S 1 p 2 = s + 1) := by
        intro p hp
        have hv := wf_p hW hp
        by_cases h0 : S 1 p 2 = 0
        · rw [h0, nu_l0]
          refine propext ⟨fun z => ?_, fun z => by omega⟩
          have := nu_m1 (a := s) (by omega)
          rw [← z] at this; exact absurd this (by simp)
        · rw [nu_lp h0, nu_eq (by omega) (by omega)]
          exact propext ⟨fun z => by omega, fun z => by omega⟩
      refine lo_ix (fun b x => pu_h122_36 X (nu_i t) (nu_i s) (nu_i b) x D _) (S 8 0 1) (ct_ (fun p => !decide (S 1 p 2 = if t.testBit p = true then s + 1 else 0))) (fun i hi hy => ?_) ?_
      · have hv := wf_p hW hi
        obtain ⟨-, c5, -⟩ := re_n hC
        refine pu_u122_36 ?_
        simp (disch := omega) only [c5, nu_lt, hi, if_true, sp_142, nu_b0, sp_n5_2 hC hW hi, nu_lm, elp i hi, nu_addn]
        by_cases hb : t.testBit i = true
        · rw [if_neg (show ¬ ¬ _ from fun z => z hb)]
          by_cases h3 : S 1 i 2 = s + 1
          · rw [if_pos h3]; simpa [ct_, hb, h3] using hy
          · rw [if_neg h3]; simpa [ct_, hb, h3] using hy
        · rw [if_pos hb]
          by_cases h3 : S 1 i 2 = 0
          · rw [if_pos h3]; simpa [ct_, hb, h3] using hy
          · rw [if_neg h3]; simpa [ct_, hb, h3] using hy
      · obtain ⟨-, c5, -⟩ := re_n hC
        refine pu_u122_36 ?_
        rw [c5, if_neg (by rw [nu_lt (by omega) (by omega)]; exact Nat.lt_irrefl _)]
        refine pu_e233 ?_
        rw [mp_153 hM, nu_bT c2, if_neg (by decide), mp_155 hM hW, nu_bT c1, if_neg (by decide)]
        refine lo_ix (fun b x => pu_h233_27 X (nu_i t) (nu_i s) (nu_i b) x D _) (S 8 0 1) (ct_ (fun p => !decide (S 1 p 2 = if t.testBit p = true then s + 1 else 0))) (fun i hi hy => ?_) ?_
        · have hv := wf_p hW hi
          obtain ⟨-, c5, -⟩ := rm_n hM
          refine pu_u233_27 ?_
          simp (disch := omega) only [c5, nu_lt, hi, if_true, nu_in, nu_ix, nu_inS, nu_b1, mc_93 hM, nu_lm, elp i hi, nu_addn]
          refine ⟨by omega, ?_⟩
          by_cases hb : t.testBit i = true
          · rw [if_pos hb]
            by_cases h3 : S 1 i 2 = s + 1
            · rw [if_pos h3]; simpa [ct_, hb, h3] using hy
            · rw [if_neg h3]; simpa [ct_, hb, h3] using hy
          · rw [if_neg hb]
            by_cases h3 : S 1 i 2 = 0
            · rw [if_pos h3]; simpa [ct_, hb, h3] using hy
            · rw [if_neg h3]; simpa [ct_, hb, h3] using hy
        · obtain ⟨-, c5, -⟩ := rm_n hM
          refine pu_u233_27 ?_
          rw [c5, if_neg (by rw [nu_lt (by omega) (by omega)]; exact Nat.lt_irrefl _)]
          exact ⟨rfl, S, hr⟩
    · rw [nu_bF c1, if_pos rfl, sp_130_1]
      refine pu_e233 ?_
      rw [mp_153 (rm_rf hM), nu_bT c2, if_neg (by decide), mp_155 (rm_rf hM) hW, nu_bF c1, if_pos rfl, mp_149_1]
      exact ⟨rfl, S, rx_rf hr⟩
  · rw [nu_bF c2, if_pos rfl, sp_130_1]
    refine pu_e233 ?_
    rw [mp_153 (rm_rf hM), nu_bF c2, if_pos rfl, mp_149_1]
    exact ⟨rfl, S, rx_rf hr⟩
end OP
