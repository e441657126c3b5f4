/-! OUT, LAY, what stands where. -/
section ST
variable {X : px_X} {S : Nat → Nat → Nat → Nat} {D : pu_D}
theorem cg_id {t i w v : Nat} (h : S t i w = v) : cg_ S t i w v = S := by
  funext t' i' w'
  unfold cg_
  split
  · rename_i e; obtain ⟨rfl, rfl, rfl⟩ := e; exact h.symm
  · rfl
theorem rx_cg3 {i v : Nat} {D2 : pu_D} (hr : rx_ S D) (hv : v ≤ 1) (hd : D2 = pu_wi (pu_wi D 6 (i * 4 + 3) (nu_i v)) 94 i (nu_i v) ∨ (D2 = pu_wi D 6 (i * 4 + 3) (nu_i v) ∧ S 1 i 3 = v)) : rel_ D2 := by
  obtain ⟨hW, hC, hM, -⟩ := id hr
  have hC1 : re_C 1 (cg_ S 1 i 3 v) (pu_wi D 6 (i * 4 + 3) (nu_i v)) := re_cg (b := 1) (t := 1) (i := i) (w := 3) (v := v) hC (by omega) (by omega)
  have hM1 : re_M S (pu_wi D 6 (i * 4 + 3) (nu_i v)) := rm_ag hM (ag_wi (Z := fun q _ => q = 6) (ag_rf D) rfl) (fun q j z => by omega)
  have hW1 : wf_ (cg_ S 1 i 3 v) := wf_cgl hW (Or.inr ⟨rfl, hv⟩)
  rcases hd with rfl | ⟨rfl, he⟩
  · refine ⟨_, rx_up hr hW1 ?_ (rm_cg (t := 1) (w := 3) (v := v) hM1 (by omega) (by decide)) ?_⟩
    · exact re_Cag hC1 (ag_wi (Z := fun q _ => q = 94) (ag_rf _) rfl) (fun q j z1 z2 z => by omega)
    · exact ag_wi (ag_wi (ag_rf D) (by unfold yy_; omega)) (by unfold yy_; omega)
  · rw [cg_id he] at hC1 hW1
    exact ⟨S, rx_up hr hW hC1 hM1 (ag_wi (ag_rf D) (by unfold yy_; omega))⟩
theorem oq_105 (h : rel_ D) {x1 : Int32} {v : Nat} (hv : v ≤ 1) : op_ X D 105 [.ref 0, .int x1, .int (nu_i v)] 197 [.ref 85, .int x1, .int (nu_i v)] := by
  obtain ⟨S, hr⟩ := h
  obtain ⟨hW, hC, hM, -⟩ := id hr
  have hn := wf_n hW
  refine pu_e105 ?_
  rw [sp_81b hC]
  by_cases c1 : rg_ x1 (S 8 0 1)
  · obtain ⟨i, hi, rfl⟩ := rg_e (by omega) c1
    have hp := wf_p hW hi
    rw [nu_bT c1, if_neg (by decide), sp_52 hC hW hi, sp_53 hC hW hi]
    have e154 : ∀ D1 : pu_D, re_M S D1 → ∀ P, pu_I X 154 [.ref 85, .int (nu_i i)] D1 P = P 1 D1 := fun D1 hM1 P => by rw [mp_154 hM1, nu_bT c1]
    by_cases h2 : S 1 i 2 = 0
    · rw [nu_bF (fun z => z h2), if_pos rfl, sp_130_6]
      refine pu_e197 ?_
      rw [e154 _ (rm_rf hM), if_neg (by decide), nu_in (by omega), nu_ix (by omega)]
      refine ⟨by omega, ?_⟩
      have e := ((rm_rf (k := 6) hM).1 1 (by omega)).2 2 (by decide) i hi
      rw [h2] at e
      rw [if_pos (show (rf_ D 6).1 93 i = -1 from e), mp_149_6]
      exact ⟨rfl, S, rx_rf hr⟩
    · rw [nu_bT h2, if_neg (by decide)]
      have hM1 : ∀ y, re_M S (pu_wi D 6 (i * 4 + 3) y) := fun y => rm_ag hM (ag_wi (Z := fun q _ => q = 6) (ag_rf D) rfl) (fun q j z => by omega)
      have e93 : ∀ y, ¬ (pu_wi D 6 (i * 4 + 3) y).1 93 i = -1 := fun y => by
        have e := ((hM1 y).1 1 (by omega)).2 2 (by decide) i hi
        rw [show (pu_wi D 6 (i * 4 + 3) y).1 93 i = nu_l (S 1 i 2) from e, nu_lm (by omega)]; exact h2
      have e94 : ∀ y, (pu_wi D 6 (i * 4 + 3) y).1 94 i = nu_i (S 1 i 3) := fun y => ((hM1 y).1 1 (by omega)).2 3 (by decide) i hi
      rcases (show v = 0 ∨ v = 1 by omega) with rfl | rfl
      · rw [if_pos (show nu_i 0 = (0 : Int32) from rfl)]
        refine (sp_83p (w := 3) (v := 0) hW hC hi (by omega)).mpr ?_
        by_cases h3 : S 1 i 3 = 1
        · rw [nu_bT h3, if_neg (by decide)]
          refine pu_e197 ?_
          rw [e154 _ (hM1 _), if_neg (by decide), nu_in (by omega), nu_ix (by omega)]
          refine ⟨by omega, ?_⟩
          rw [if_neg (e93 _), if_pos (show nu_i 0 = (0 : Int32) from rfl), e94, h3, if_neg (show ¬ nu_i 1 = (0 : Int32) by decide)]
          exact ⟨by omega, by omega, rfl, rx_cg3 (v := 0) hr (by omega) (Or.inl rfl)⟩
        · have h30 : S 1 i 3 = 0 := by omega
          rw [nu_bF h3, if_pos (show (0 : Int32) = nu_i 0 from rfl)]
          refine pu_e197 ?_
          rw [e154 _ (hM1 _), if_neg (by decide), nu_in (by omega), nu_ix (by omega)]
          refine ⟨by omega, ?_⟩
          rw [if_neg (e93 _), if_pos (show nu_i 0 = (0 : Int32) from rfl), e94, h30, if_pos (show nu_i 0 = (0 : Int32) from rfl)]
          exact ⟨by omega, rfl, rx_cg3 (v := 0) hr (by omega) (Or.inr ⟨rfl, h30⟩)⟩
      · rw [if_neg (show ¬ nu_i 1 = (0 : Int32) by decide)]
        refine (sp_83p (w := 3) (v := 1) hW hC hi (by omega)).mpr ?_
        by_cases h3 : S 1 i 3 = 1
        · rw [nu_bT h3, if_pos (show (1 : Int32) = nu_i 1 from rfl)]
          refine pu_e197 ?_
          rw [e154 _ (hM1 _), if_neg (by decide), nu_in (by omega), nu_ix (by omega)]
          refine ⟨by omega, ?_⟩
          rw [if_neg (e93 _), if_neg (show ¬ nu_i 1 = (0 : Int32) by decide), e94, h3, if_pos (show nu_i 1 = (1 : Int32) from rfl)]
          exact ⟨by omega, rfl, rx_cg3 (v := 1) hr (by omega) (Or.inr ⟨rfl, h3⟩)⟩
        · have h30 : S 1 i 3 = 0 := by omega
          rw [nu_bF h3, if_neg (by decide)]
          refine pu_e197 ?_
          rw [e154 _ (hM1 _), if_neg (by decide), nu_in (by omega), nu_ix (by omega)]
          refine ⟨by omega, ?_⟩
          rw [if_neg (e93 _), if_neg (show ¬ nu_i 1 = (0 : Int32) by decide), e94, h30, if_neg (show ¬ nu_i 0 = (1 : Int32) by decide)]
          exact ⟨by omega, by omega, rfl, rx_cg3 (v := 1) hr (by omega) (Or.inl rfl)⟩
  · rw [nu_bF c1, if_pos rfl, sp_130_1]
    refine pu_e197 ?_
    rw [mp_154 (rm_rf hM), nu_bF c1, if_pos rfl, mp_149_1]
    exact ⟨rfl, S, rx_rf hr⟩
/-- the two laying loops -/
def dc_ (D : pu_D) (set s : Nat) : Nat → pu_D
  | 0 => D
  | n + 1 => pu_wi (pu_wi (dc_ D set s n) 6 (n * 4 + 2) (nu_l (if set.testBit n = true then s + 1 else 0))) 6 (n * 4 + 3) 0
def dm_ (D : pu_D) (set s : Nat) : Nat → pu_D
  | 0 => D
  | n + 1 => pu_wi (pu_wi (dm_ D set s n) 93 n (nu_l (if set.testBit n = true then s + 1 else 0))) 94 n 0
theorem dc_C {set s : Nat} (hC : re_C 1 S D) : ∀ n, re_C 1 (lzl_ S set s n) (dc_ D set s n)
  | 0 => hC
  | n + 1 => re_lm (b := 1) (dc_C hC n)
theorem dm_M {set s : Nat} (hM : re_M S D) : ∀ n, re_M (lzl_ S set s n) (dm_ D set s n)
  | 0 => hM
  | n + 1 => rm_lm (dm_M hM n)
theorem dc_ag {set s : Nat} : ∀ n, ag_ (fun q _ => q = 6) D (dc_ D set s n)
  | 0 => ag_rf D
  | n + 1 => ag_wi (ag_wi (dc_ag n) rfl) rfl
theorem dm_ag {set s : Nat} : ∀ n, ag_ (fun q _ => q = 93 ∨ q = 94) D (dm_ D set s n)
  | 0 => ag_rf D
  | n + 1 => ag_wi (ag_wi (dm_ag n) (Or.inl rfl)) (Or.inr rfl)
theorem lz_n {set s t : Nat} : ∀ n, lzl_ S set s n 8 0 t = S 8 0 t
  | 0 => rfl
  | n + 1 => lm_n.trans (lz_n n)
theorem lz_W {set s : Nat} (hW : wf_ S) (hs : s < S 8 0 0) : ∀ n, wf_ (lzl_ S set s n)
  | 0 => hW
  | n + 1 => wf_lm (lz_W hW hs n) (by rw [lz_n]; split <;> omega)
theorem oq_123 (h : rel_ D) {x1 x2 : Int32} : op_ X D 123 [.ref 0, .int x1, .int x2] 234 [.ref 85, .int x1, .int x2] := by
  obtain ⟨S, hr⟩ := h
  obtain ⟨hW, hC, hM, -⟩ := id hr
  have hn := wf_n hW
  have hp := p2_le hW
  refine pu_e123 ?_
  rw [sp_81a hC]
  by_cases c2 : rg_ x2 (S 8 0 0)
  · rw [nu_bT c2, if_neg (by decide), sp_51b hC hW]
    by_cases c1 : rg_ x1 (2 ^ S 8 0 1)
    · rw [nu_bT c1, if_neg (by decide)]
      obtain ⟨s, hs, rfl⟩ := rg_e (by omega) c2
      obtain ⟨set, hset, rfl⟩ := rg_e (by omega) c1
      refine lo_ix (fun a x => pu_h123_33 X (nu_i set) (nu_i s) x a _) (S 8 0 1) (dc_ D set s) (fun i hi hh => ?_) ?_
      · have hC1 := dc_C (set := set) (s := s) hC i
        have hW1 := lz_W (set := set) hW hs i
        refine pu_u123_33 ?_
        rw [(re_n hC1).2.1, lz_n, if_pos (nu_ltp (by omega) hi), sp_142 (by omega) (by omega)]
        rw [dc_] at hh
        by_cases hb : set.testBit i = true
        · rw [nu_bT hb, if_neg (by decide)]
          rw [if_pos hb] at hh
          refine (sp_54 (a := s + 1) hW1 hC1 (by rw [lz_n]; exact hi) (by rw [lz_n]; omega)).mpr ?_
          rw [nu_addn]; exact hh
        · rw [nu_bF hb, if_pos rfl]
          rw [if_neg hb] at hh
          refine (sp_54 (a := 0) hW1 hC1 (by rw [lz_n]; exact hi) (Nat.zero_le _)).mpr ?_
          rw [nu_addn]; exact hh
      · have hC1 := dc_C (set := set) (s := s) hC (S 8 0 1)
        have hW1 := lz_W (set := set) hW hs (S 8 0 1)
        refine pu_u123_33 ?_
        rw [(re_n hC1).2.1, lz_n, if_neg (nu_ltx (by omega) (by omega)), sp_69 hC1 hW1 (by omega) (by rw [lz_n]; exact hs)]
        have hM0 : re_M S (dc_ D set s (S 8 0 1)) := rm_ag hM (dc_ag _) (fun q j z => by omega)
        refine pu_e234 ?_
        rw [mp_153 hM0, nu_bT c2, if_neg (by decide), mp_155 hM0 hW, nu_bT c1, if_neg (by decide)]
        generalize hD1 : dc_ D set s (S 8 0 1) = D1 at *
        refine lo_ix (fun a x => pu_h234_24 X (nu_i set) (nu_i s) x a _) (S 8 0 1) (dm_ D1 set s) (fun i hi hh => ?_) ?_
        · have hM1 := dm_M (set := set) (s := s) hM0 i
          refine pu_u234_24 ?_
          rw [(rm_n hM1).2.1, lz_n, if_pos (nu_ltp (by omega) hi), nu_inS (by omega) (by omega), nu_in (by omega), nu_ix (by omega)]
          rw [dm_] at hh
          by_cases hb : set.testBit i = true
          · rw [nu_bT hb, if_pos rfl]
            rw [if_pos hb] at hh
            refine ⟨by omega, by omega, ?_⟩
            rw [nu_addn]; exact hh
          · rw [nu_bF hb, if_neg (by decide)]
            rw [if_neg hb] at hh
            refine ⟨by omega, by omega, ?_⟩
            rw [nu_addn]; exact hh
        · have hM1 := dm_M (set := set) (s := s) hM0 (S 8 0 1)
          refine pu_u234_24 ?_
          rw [(rm_n hM1).2.1, lz_n, if_neg (nu_ltx (by omega) (by omega)), mp_215 hM1 hW1 (by omega) (by rw [lz_n]; exact hs)]
          refine ⟨rfl, _, rx_up hr hW1 (re_Cag hC1 (dm_ag _) (fun q j z1 z2 z => by omega)) hM1 (ag_tr (ag_mo (hD1 ▸ dc_ag _) fun q j z => ?_) (ag_mo (dm_ag _) fun q j z => ?_))⟩
          · unfold yy_; omega
          · unfold yy_; omega
    · rw [nu_bF c1, if_pos rfl, sp_130_1]
      refine pu_e234 ?_
      rw [mp_153 (rm_rf hM), nu_bT c2, if_neg (by decide), mp_155 (rm_rf hM) hW, nu_bF c1, if_pos rfl, mp_149_1]
      exact ⟨rfl, S, rx_rf hr⟩
  · rw [nu_bF c2, if_pos rfl, sp_130_1]
    refine pu_e234 ?_
    rw [mp_153 (rm_rf hM), nu_bF c2, if_pos rfl, mp_149_1]
    exact ⟨rfl, S, rx_rf hr⟩
theorem oq_101 (h : rel_ D) : op_ X D 101 [.ref 0] 193 [.ref 85] := by
  obtain ⟨S, hr⟩ := h
  obtain ⟨-, -, -, -, -, -, -, h8, -⟩ := id hr
  refine pu_e101 (pu_e193 ⟨h8, S, hr⟩)
theorem oq_102 (h : rel_ D) {x1 x2 : Int32} : op_ X D 102 [.ref 0, .int x1, .int x2] 194 [.ref 85, .int x1, .int x2] := by
  obtain ⟨S, hr⟩ := h
  obtain ⟨hW, hC, hM, -⟩ := id hr
  have hn := wf_n hW
  refine pu_e102 ?_
  rw [sp_81a hC]
  by_cases c1 : rg_ x1 (S 8 0 0)
  · rw [nu_bT c1, if_neg (by decide)]
    by_cases h1 : x2 < 0
    · rw [if_pos h1, sp_130_5]
      refine pu_e194 ?_
      rw [mp_153 (rm_rf hM), nu_bT c1, if_neg (by decide), if_pos h1, mp_149_5]
      exact ⟨rfl, S, rx_rf hr⟩
    rw [if_neg h1]
    by_cases h2 : 3 < x2
    · rw [if_pos h2, sp_130_5]
      refine pu_e194 ?_
      rw [mp_153 (rm_rf hM), nu_bT c1, if_neg (by decide), if_neg h1, if_pos h2, mp_149_5]
      exact ⟨rfl, S, rx_rf hr⟩
    rw [if_neg h2]
    obtain ⟨i, hi, rfl⟩ := rg_e (by omega) c1
    obtain ⟨w, -, hw, rfl⟩ := rb_e (lo := 0) (hi := 3) (by omega) (by omega) ⟨h1, h2⟩
    rw [sp_82 pu_c3 (re_n hC).1 (by rw [pu_r3_1, pu_ln4]; omega) (by omega) hi (by omega), pu_r3_1]
    refine pu_e194 ?_
    rw [mp_153 hM, nu_bT c1, if_neg (by decide), if_neg h1, if_neg h2, nu_in (by omega), nu_ix (by omega)]
    have e : ∀ w, w < 4 → D.1 4 (i * 4 + w) = D.1 (87 + w) i := fun w hw => ((hC.1 0 (by omega)).2.2 i hi w hw).trans ((hM.1 0 (by omega)).2 w hw i hi).symm
    rcases (show w = 0 ∨ w = 1 ∨ w = 2 ∨ w = 3 by omega) with rfl | rfl | rfl | rfl
    · rw [if_pos (show nu_i 0 = (0 : Int32) from rfl)]; exact ⟨by omega, e 0 (by omega), S, hr⟩
    · rw [if_neg (show ¬ nu_i 1 = (0 : Int32) by decide), if_pos (show nu_i 1 = (1 : Int32) from rfl)]; exact ⟨by omega, e 1 (by omega), S, hr⟩
    · rw [if_neg (show ¬ nu_i 2 = (0 : Int32) by decide), if_neg (show ¬ nu_i 2 = (1 : Int32) by decide), if_pos (show nu_i 2 = (2 : Int32) from rfl)]; exact ⟨by omega, e 2 (by omega), S, hr⟩
    · rw [if_neg (show ¬ nu_i 3 = (0 : Int32) by decide), if_neg (show ¬ nu_i 3 = (1 : Int32) by decide), if_neg (show ¬ nu_i 3 = (2 : Int32) by decide)]; exact ⟨by omega, e 3 (by omega), S, hr⟩
  · rw [nu_bF c1, if_pos rfl, sp_130_5]
    refine pu_e194 ?_
    rw [mp_153 (rm_rf hM), nu_bF c1, if_pos rfl, mp_149_5]
    exact ⟨rfl, S, rx_rf hr⟩
theorem oq_103 (h : rel_ D) {x1 x2 : Int32} : op_ X D 103 [.ref 0, .int x1, .int x2] 195 [.ref 85, .int x1, .int x2] := by
  obtain ⟨S, hr⟩ := h
  obtain ⟨hW, hC, hM, -⟩ := id hr
  have hn := wf_n hW
  refine pu_e103 ?_
  rw [sp_81b hC]
  by_cases c1 : rg_ x1 (S 8 0 1)
  · rw [nu_bT c1, if_neg (by decide)]
    by_cases h1 : x2 < 0
    · rw [if_pos h1, sp_130_5]
      refine pu_e195 ?_
      rw [mp_154 (rm_rf hM), nu_bT c1, if_neg (by decide), if_pos h1, mp_149_5]
      exact ⟨rfl, S, rx_rf hr⟩
    rw [if_neg h1]
    by_cases h2 : 3 < x2
    · rw [if_pos h2, sp_130_5]
      refine pu_e195 ?_
      rw [mp_154 (rm_rf hM), nu_bT c1, if_neg (by decide), if_neg h1, if_pos h2, mp_149_5]
      exact ⟨rfl, S, rx_rf hr⟩
    rw [if_neg h2]
    obtain ⟨i, hi, rfl⟩ := rg_e (by omega) c1
    obtain ⟨w, -, hw, rfl⟩ := rb_e (lo := 0) (hi := 3) (by omega) (by omega) ⟨h1, h2⟩
    rw [sp_82 pu_c5 (re_n hC).2.1 (by rw [pu_r5_1, pu_ln6]; omega) (by omega) hi (by omega), pu_r5_1]
    refine pu_e195 ?_
    rw [mp_154 hM, nu_bT c1, if_neg (by decide), if_neg h1, if_neg h2, nu_in (by omega), nu_ix (by omega)]
    have e : ∀ w, w < 4 → D.1 6 (i * 4 + w) = D.1 (91 + w) i := fun w hw => ((hC.1 1 (by omega)).2.2 i hi w hw).trans ((hM.1 1 (by omega)).2 w hw i hi).symm
    rcases (show w = 0 ∨ w = 1 ∨ w = 2 ∨ w = 3 by omega) with rfl | rfl | rfl | rfl
    · rw [if_pos (show nu_i 0 = (0 : Int32) from rfl)]; exact ⟨by omega, e 0 (by omega), S, hr⟩
    · rw [if_neg (show ¬ nu_i 1 = (0 : Int32) by decide), if_pos (show nu_i 1 = (1 : Int32) from rfl)]; exact ⟨by omega, e 1 (by omega), S, hr⟩
    · rw [if_neg (show ¬ nu_i 2 = (0 : Int32) by decide), if_neg (show ¬ nu_i 2 = (1 : Int32) by decide), if_pos (show nu_i 2 = (2 : Int32) from rfl)]; exact ⟨by omega, e 2 (by omega), S, hr⟩
    · rw [if_neg (show ¬ nu_i 3 = (0 : Int32) by decide), if_neg (show ¬ nu_i 3 = (1 : Int32) by decide), if_neg (show ¬ nu_i 3 = (2 : Int32) by decide)]; exact ⟨by omega, e 3 (by omega), S, hr⟩
  · rw [nu_bF c1, if_pos rfl, sp_130_5]
    refine pu_e195 ?_
    rw [mp_154 (rm_rf hM), nu_bF c1, if_pos rfl, mp_149_5]
    exact ⟨rfl, S, rx_rf hr⟩
end ST
