/-! BOUND: how many lamps of a sort the street may need. -/
theorem ct_or {t p0 : Nat} : ∀ n, t.testBit p0 = false → ct_ (fun p => (t ||| 1 <<< p0).testBit p) n = ct_ (fun p => t.testBit p) n + (if p0 < n then 1 else 0)
  | 0, _ => by rw [if_neg (by omega)]; rfl
  | n + 1, h => by
    have ih := ct_or n h
    rw [ct_succ (n := n), ct_succ (n := n), ih, Nat.testBit_or, Nat.one_shiftLeft, Nat.testBit_two_pow]
    by_cases e : p0 = n
    · subst e
      rw [h]; simp
    · have e2 : decide (p0 = n) = false := by simp [e]
      rw [e2, Bool.or_false]
      by_cases hb : t.testBit n = true
      · rw [if_pos hb, if_pos hb]
        by_cases hp : p0 < n
        · rw [if_pos hp, if_pos (by omega)]
        · rw [if_neg hp, if_neg (by omega)]
      · rw [if_neg hb, if_neg hb]
        by_cases hp : p0 < n
        · rw [if_pos hp, if_pos (by omega)]
        · rw [if_neg hp, if_neg (by omega)]
theorem ct_full {b : Nat → Bool} : ∀ n, ct_ b n = n → ∀ p, p < n → b p = true
  | 0, _, p, hp => absurd hp (Nat.not_lt_zero _)
  | n + 1, h, p, hp => by
    rw [ct_succ] at h
    have hle := ct_le b n
    by_cases hb : b n = true
    · rw [if_pos hb] at h
      by_cases e : p = n
      · rw [e]; exact hb
      · exact ct_full n (by omega) p (by omega)
    · rw [if_neg hb] at h; omega
section ST
variable {X : px_X} {S : Nat → Nat → Nat → Nat} {D : pu_D}
theorem bs2_i {s m q t : Nat} : (bs2_ S s m q t = 0 → ∀ p, p < S 8 0 1 → t.testBit p = true) ∧ (¬ bs2_ S s m q t = 0 → bs2_ S s m q t ≤ S 8 0 1 ∧ t.testBit (bs2_ S s m q t - 1) = false) := by
  unfold bs2_ ba2_
  refine fo_inv (fun n b => (b = 0 → ∀ p, p < n → t.testBit p = true) ∧ (¬ b = 0 → b ≤ n ∧ t.testBit (b - 1) = false)) ⟨fun _ p hp => absurd hp (Nat.not_lt_zero _), fun z => absurd rfl z⟩ (fun i hi a ⟨h1, h2⟩ => ?_)
  by_cases hb : t.testBit i = true
  · rw [if_pos hb]
    refine ⟨fun z p hp => ?_, fun z => ⟨by have := (h2 z).1; omega, (h2 z).2⟩⟩
    by_cases e : p = i
    · rw [e]; exact hb
    · exact h1 z p (by omega)
  · rw [if_neg hb]
    have hbf : t.testBit i = false := by simpa using hb
    by_cases h0 : a = 0
    · rw [if_pos h0]; exact ⟨fun z => by omega, fun _ => ⟨by omega, hbf⟩⟩
    · rw [if_neg h0]
      split
      · exact ⟨fun z => by omega, fun _ => ⟨by omega, hbf⟩⟩
      · exact ⟨fun z => absurd z h0, fun _ => ⟨by have := (h2 h0).1; omega, (h2 h0).2⟩⟩
/-- what a point needs: 0 never enough, k + 1 for k lamps -/
def ne_ (S : Nat → Nat → Nat → Nat) (s m q : Nat) : Nat → Nat → Nat
  | 0, i => if (nl_ S s m q i).1 < (if ip_ S q = true then 0 else S 7 0 0) then 0 else i + 1
  | f + 1, i => if (nl_ S s m q i).1 < (if ip_ S q = true then 0 else S 7 0 0) then (if bs2_ S s m q (nl_ S s m q i).2 = 0 then 0 else ne_ S s m q f (i + 1)) else i + 1
/-- what the street needs -/
def ob_ (S : Nat → Nat → Nat → Nat) (s m : Nat) : Nat → Nat → Nat → Nat
  | 0, _, x => x + 1
  | r + 1, q, x => if ne_ S s m q (S 8 0 1) 0 = 0 then 0 else ob_ S s m r (q + 1) (if x < ne_ S s m q (S 8 0 1) 0 - 1 then ne_ S s m q (S 8 0 1) 0 - 1 else x)
theorem ne_le {s m q : Nat} : ∀ f i, ne_ S s m q f i ≤ f + i + 1
  | 0, i => by
    unfold ne_
    generalize (if ip_ S q = true then 0 else S 7 0 0) = need
    split <;> omega
  | f + 1, i => by
    have := ne_le (s := s) (m := m) (q := q) f (i + 1)
    unfold ne_
    generalize (if ip_ S q = true then 0 else S 7 0 0) = need
    split
    · split <;> omega
    · omega
/-- the first i picks were there -/
def pk_ (S : Nat → Nat → Nat → Nat) (s m q i : Nat) : Prop := (nl_ S s m q i).2 < 512 ∧ (nl_ S s m q i).1 ≤ 10000 + i * 99000 ∧ ct_ (fun p => (nl_ S s m q i).2.testBit p) (S 8 0 1) = i
theorem sh_10 (hW : wf_ S) {q h : Nat} : sh_ S q h ≤ 10000 := by
  have := sh_le hW (q := q) (h := h); omega
theorem pk_0 (hW : wf_ S) {s m q : Nat} : pk_ S s m q 0 := by
  refine ⟨show 0 < 512 by omega, ?_, ?_⟩
  · exact Nat.le_trans (sh_10 hW) (by omega)
  · show ct_ (fun p => (0 : Nat).testBit p) (S 8 0 1) = 0
    rw [ct_tail (n := 0) (S 8 0 1) (by omega) (fun i _ _ => by simp)]; rfl
theorem pk_s (hW : wf_ S) {s m q i : Nat} (hs : s < S 8 0 0) (h : pk_ S s m q i) (hb : ¬ bs2_ S s m q (nl_ S s m q i).2 = 0) : pk_ S s m q (i + 1) := by
  obtain ⟨h1, h2, h3⟩ := h
  have hn := wf_n hW
  obtain ⟨b1, b2⟩ := (bs2_i (S := S) (s := s) (m := m) (q := q) (t := (nl_ S s m q i).2)).2 hb
  have g := gv_le hW (p := bs2_ S s m q (nl_ S s m q i).2 - 1) (q := q) (m := m) hs
  refine ⟨?_, ?_, ?_⟩
  · show (nl_ S s m q i).2 ||| 1 <<< (bs2_ S s m q (nl_ S s m q i).2 - 1) < 2 ^ 9
    refine Nat.or_lt_two_pow h1 ?_
    rw [Nat.one_shiftLeft]
    exact Nat.pow_lt_pow_right (by decide) (by omega)
  · show (nl_ S s m q i).1 + gv_ S (bs2_ S s m q (nl_ S s m q i).2 - 1) s q m ≤ _
    rw [Nat.succ_mul]; omega
  · show ct_ (fun p => ((nl_ S s m q i).2 ||| 1 <<< (bs2_ S s m q (nl_ S s m q i).2 - 1)).testBit p) (S 8 0 1) = i + 1
    rw [ct_or _ b2, h3, if_pos (by omega)]
theorem sp_17 (hW : wf_ S) {s m q : Nat} {P : Int32 → pu_D → Prop} (hc : cp_ S s m D) (hq : q < S 7 0 3 * 2) (hs : s < S 8 0 0) : pu_I X 17 [.ref 56, .int (nu_i q)] D P = P (nu_l (ne_ S s m q (S 8 0 1) 0)) D := by
  have hn := wf_n hW
  have hM := wf_m hW
  refine pu_I_of (pu_e17 ?_) P
  rw [nu_in (by omega), nu_ix (by omega), (hc.2.2.2.1 q hq).2.2.1]
  refine ⟨by omega, ?_⟩
  have key : ∀ f i, f + i = S 8 0 1 → pk_ S s m q i → pu_h17_12 X (nu_i q) (nu_i (nl_ S s m q i).1) (nu_i (nl_ S s m q i).2) (nu_i i) D (fun y D' => y = nu_l (ne_ S s m q f i) ∧ D' = D) := by
    intro f
    induction f with
    | zero =>
      intro i hi hpk
      have h2 := hpk.2.1
      refine pu_u17_12 ?_
      rw [hc.2.1, if_neg (nu_ltx (by omega) (by omega)), nu_in (by omega), nu_ix (by omega), (hc.2.2.2.1 q hq).1]
      refine ⟨by omega, ?_⟩
      unfold ne_
      by_cases hl : (nl_ S s m q i).1 < (if ip_ S q = true then 0 else S 7 0 0)
      · rw [if_pos (nu_ltp (by split <;> omega) hl), if_pos hl]; exact ⟨rfl, rfl⟩
      · rw [if_neg (nu_ltx (by omega) hl), if_neg hl, nu_lS, ← hi, Nat.zero_add]; exact ⟨rfl, rfl⟩
    | succ f ih =>
      intro i hi hpk
      have h2 := hpk.2.1
      refine pu_u17_12 ?_
      rw [hc.2.1, if_pos (nu_ltp (by omega) (by omega)), nu_in (by omega), nu_ix (by omega), (hc.2.2.2.1 q hq).1]
      refine ⟨by omega, ?_⟩
      unfold ne_
      by_cases hl : (nl_ S s m q i).1 < (if ip_ S q = true then 0 else S 7 0 0)
      · rw [if_pos (nu_ltp (by split <;> omega) hl), if_pos hl, sp_18 hW hc hpk.1 hq hs]
        have hb := bs2_i (S := S) (s := s) (m := m) (q := q) (t := (nl_ S s m q i).2)
        by_cases h0 : bs2_ S s m q (nl_ S s m q i).2 = 0
        · rw [h0, nu_l0, if_pos rfl, if_pos rfl]; exact ⟨rfl, rfl⟩
        · obtain ⟨b1, b2⟩ := hb.2 h0
          rw [if_neg (by rw [nu_lm (by omega)]; exact h0), if_neg h0, nu_lp h0]
          simp (disch := omega) only [nu_muln, nu_add, nu_in, nu_ix, (hc.2.2.2.1 q hq).2.2.2 _ (show bs2_ S s m q (nl_ S s m q i).2 - 1 < S 8 0 1 by omega), nu_addn]
          rw [nu_orS hpk.1 (by omega)]
          exact ⟨by omega, ih (i + 1) (by omega) (pk_s hW hs hpk h0)⟩
      · rw [if_neg (nu_ltx (by omega) hl), if_neg hl, nu_lS]; exact ⟨rfl, rfl⟩
  exact key (S 8 0 1) 0 rfl (pk_0 hW)
theorem sp_16 (hW : wf_ S) {s m : Nat} {P : Int32 → pu_D → Prop} (hc : cp_ S s m D) (hs : s < S 8 0 0) : pu_I X 16 [.ref 56] D P = P (nu_l (ob_ S s m (S 7 0 3 * 2) 0 0)) D := by
  have hn := wf_n hW
  have hM := wf_m hW
  refine pu_I_of (pu_e16 ?_) P
  have key : ∀ r q x, r + q = S 7 0 3 * 2 → x ≤ 9 → pu_h16_4 X (nu_i x) (nu_i q) D (fun y D' => y = nu_l (ob_ S s m r q x) ∧ D' = D) := by
    intro r
    induction r with
    | zero =>
      intro q x hq hx
      refine pu_u16_4 ?_
      rw [hc.1, if_neg (nu_ltx (by omega) (by omega))]
      exact ⟨rfl, rfl⟩
    | succ r ih =>
      intro q x hq hx
      have hne := ne_le (S := S) (s := s) (m := m) (q := q) (S 8 0 1) 0
      refine pu_u16_4 ?_
      rw [hc.1, if_pos (nu_ltp (by omega) (by omega)), sp_17 hW hc (by omega) hs]
      unfold ob_
      by_cases h0 : ne_ S s m q (S 8 0 1) 0 = 0
      · rw [h0, nu_l0, if_pos rfl, if_pos rfl]; exact ⟨rfl, rfl⟩
      · rw [if_neg (by rw [nu_lm (by omega)]; exact h0), if_neg h0, nu_lp h0, nu_addn]
        by_cases h1 : x < ne_ S s m q (S 8 0 1) 0 - 1
        · rw [if_pos (nu_ltp (by omega) h1), if_pos h1]; exact ih (q + 1) _ (by omega) (by omega)
        · rw [if_neg (nu_ltx (by omega) h1), if_neg h1]; exact ih (q + 1) _ (by omega) hx
  exact key _ 0 0 rfl (by omega)
theorem mp_225L (hM : re_M S D) (hW : wf_ S) {s m : Nat} {P : Int32 → pu_D → Prop} (hs : s < S 8 0 0) (hc : sn_ S s m D) (hP : P (nu_l (ob_ S s m (S 7 0 3 * 2) 0 0)) D) : pu_h225_40 X 0 0 D P := by
  have hn := wf_n hW
  have hMM := wf_m hW
  obtain ⟨m0, -, -, m3⟩ := rm_m hM
  have c5 := (rm_n hM).2.1
  -- the brightest aside
  have pick : ∀ (q t x6 : Nat) (x3 x7 : Int32) (Q : Prop), q < S 7 0 3 * 2 → t < 512 → (Q → pu_h225_93 X x3 (nu_i q) (nu_i t) (nu_i x6) x7 (nu_l (bs2_ S s m q t)) (nu_i (S 8 0 1)) D P) → Q → pu_h225_93 X x3 (nu_i q) (nu_i t) (nu_i x6) x7 (-1) 0 D P := by
    intro q t x6 x3 x7 Q hq ht hk hQ
    refine lo_ix (fun b x => pu_h225_93 X x3 (nu_i q) (nu_i t) (nu_i x6) x7 (nu_l b) x D P) (S 8 0 1) (ba2_ S s m q t) (fun i hi h => ?_) (hk hQ)
    have hle := ba2_le (S := S) (s := s) (m := m) (q := q) (t := t) (n := i)
    have g1 := gv_le hW (p := i) (q := q) (m := m) hs
    have g2 := gv_le hW (p := ba2_ S s m q t i - 1) (q := q) (m := m) hs
    rw [ba2_succ] at h
    refine pu_u225_93 ?_
    rw [c5, if_pos (nu_ltp (by omega) hi), nu_inS ht (by omega)]
    by_cases hb : t.testBit i = true
    · rw [nu_bT hb, if_neg (by decide), nu_addn]; rw [if_pos hb] at h; exact h
    · rw [nu_bF hb, if_pos rfl]; rw [if_neg hb] at h
      by_cases h0 : ba2_ S s m q t i = 0
      · rw [if_pos (by rw [h0]; rfl), nu_addn]; rw [if_pos h0] at h; exact h
      · rw [if_neg (by rw [nu_lm (by omega)]; exact h0)]; rw [if_neg h0] at h
        rw [nu_lp h0]
        simp (disch := omega) only [nu_nmul, nu_add, nu_in, nu_ix, nu_addn, (hc q hq).1 i hi, (hc q hq).1 (ba2_ S s m q t i - 1) (by omega), nu_lt]
        refine ⟨by omega, by omega, ?_⟩
        by_cases h3 : gv_ S (ba2_ S s m q t i - 1) s q m < gv_ S i s q m
        · rw [if_pos h3]; rw [if_pos h3] at h; exact h
        · rw [if_neg h3]; rw [if_neg h3, nu_lp h0] at h; exact h
  -- one point
  have point : ∀ (q x : Nat), q < S 7 0 3 * 2 → x ≤ 9 → ip_ S q = false → ∀ f i, f + i = S 8 0 1 → pk_ S s m q i → (ne_ S s m q f i = 0 → P (-1) D) → (¬ ne_ S s m q f i = 0 → pu_h225_40 X (nu_i (if x < ne_ S s m q f i - 1 then ne_ S s m q f i - 1 else x)) (nu_i (q + 1)) D P) → pu_h225_78 X (nu_i x) (nu_i q) (nu_i (nl_ S s m q i).2) (nu_i i) (nu_i (nl_ S s m q i).1) D P := by
    intro q x hq hx hip f
    have e0 : (if ip_ S q = true then 0 else S 7 0 0) = S 7 0 0 := if_neg (by rw [hip]; decide)
    have enough : ∀ i, i ≤ 9 → pk_ S s m q i → ¬ (nl_ S s m q i).1 < S 7 0 0 → pu_h225_40 X (nu_i (if x < i then i else x)) (nu_i (q + 1)) D P → pu_h225_78 X (nu_i x) (nu_i q) (nu_i (nl_ S s m q i).2) (nu_i i) (nu_i (nl_ S s m q i).1) D P := by
      intro i hi9 hpk hl h
      have h2 := hpk.2.1
      refine pu_u225_78 ?_
      rw [m0, if_neg (nu_ltx (by omega) hl)]
      by_cases h1 : x < i
      · rw [if_pos (nu_ltp (by omega) h1), nu_addn]; rw [if_pos h1] at h; exact h
      · rw [if_neg (nu_ltx (by omega) h1), nu_addn]; rw [if_neg h1] at h; exact h
    induction f with
    | zero =>
      intro i hi hpk hz hnz
      have h2 := hpk.2.1
      by_cases hl : (nl_ S s m q i).1 < S 7 0 0
      · have hne : ne_ S s m q 0 i = 0 := by unfold ne_; rw [e0, if_pos hl]
        refine pu_u225_78 ?_
        rw [m0, if_pos (nu_ltp (by omega) hl)]
        refine pick q _ i (nu_i x) _ True hq hpk.1 (fun _ => ?_) trivial
        have hb0 : bs2_ S s m q (nl_ S s m q i).2 = 0 := by
          refine Decidable.byContradiction fun hb => ?_
          obtain ⟨b1, b2⟩ := (bs2_i (S := S) (s := s) (m := m) (q := q) (t := (nl_ S s m q i).2)).2 hb
          have := ct_full (S 8 0 1) (hpk.2.2.trans (by omega)) (bs2_ S s m q (nl_ S s m q i).2 - 1) (by omega)
          rw [b2] at this; cases this
        refine pu_u225_93 ?_
        rw [c5, if_neg (nu_ltx (by omega) (by omega)), hb0, nu_l0, if_pos rfl]
        exact hz hne
      · have hne : ne_ S s m q 0 i = i + 1 := by unfold ne_; rw [e0, if_neg hl]
        rw [hne] at hnz
        exact enough i (by omega) hpk hl (hnz (by omega))
    | succ f ih =>
      intro i hi hpk hz hnz
      have h2 := hpk.2.1
      by_cases hl : (nl_ S s m q i).1 < S 7 0 0
      · refine pu_u225_78 ?_
        rw [m0, if_pos (nu_ltp (by omega) hl)]
        refine pick q _ i (nu_i x) _ True hq hpk.1 (fun _ => ?_) trivial
        refine pu_u225_93 ?_
        rw [c5, if_neg (nu_ltx (by omega) (by omega))]
        by_cases h0 : bs2_ S s m q (nl_ S s m q i).2 = 0
        · have hne : ne_ S s m q (f + 1) i = 0 := by rw [ne_, e0, if_pos hl, if_pos h0]
          rw [h0, nu_l0, if_pos rfl]
          exact hz hne
        · obtain ⟨b1, b2⟩ := (bs2_i (S := S) (s := s) (m := m) (q := q) (t := (nl_ S s m q i).2)).2 h0
          have hne : ne_ S s m q (f + 1) i = ne_ S s m q f (i + 1) := by rw [ne_, e0, if_pos hl, if_neg h0]
          rw [hne] at hz hnz
          rw [if_neg (by rw [nu_lm (by omega)]; exact h0), nu_lp h0]
          simp (disch := omega) only [nu_nmul, nu_add, nu_in, nu_ix, nu_addn, (hc q hq).1 (bs2_ S s m q (nl_ S s m q i).2 - 1) (by omega)]
          rw [nu_orS hpk.1 (by omega)]
          exact ⟨by omega, ih (i + 1) (by omega) (pk_s hW hs hpk h0) hz hnz⟩
      · have hne : ne_ S s m q (f + 1) i = i + 1 := by rw [ne_, e0, if_neg hl]
        rw [hne] at hnz
        exact enough i (by omega) hpk hl (hnz (by omega))
  have key : ∀ r q x, r + q = S 7 0 3 * 2 → x ≤ 9 → P (nu_l (ob_ S s m r q x)) D → pu_h225_40 X (nu_i x) (nu_i q) D P := by
    intro r
    induction r with
    | zero =>
      intro q x hq hx hp
      refine pu_u225_40 ?_
      rw [m3, nu_nmul, if_neg (nu_ltx (by omega) (by omega))]
      exact hp
    | succ r ih =>
      intro q x hq hx hp
      have hne := ne_le (S := S) (s := s) (m := m) (q := q) (S 8 0 1) 0
      rw [ob_] at hp
      refine pu_u225_40 ?_
      rw [m3, nu_nmul, if_pos (nu_ltp (by omega) (by omega)), mp_210 hM hW (by omega)]
      by_cases hip : ip_ S q = true
      · rw [nu_bT hip, if_neg (by decide), nu_addn]
        have e1 : ne_ S s m q (S 8 0 1) 0 = 1 := by
          cases S 8 0 1 with
          | zero => rw [ne_, if_pos hip, if_neg (by omega)]
          | succ f => rw [ne_, if_pos hip, if_neg (by omega)]
        rw [e1, if_neg (by omega), if_neg (by omega)] at hp
        exact ih (q + 1) x (by omega) hx hp
      · rw [nu_bF hip, if_pos rfl, nu_in (by omega), nu_ix (by omega), (hc q (by omega)).2]
        refine ⟨by omega, ?_⟩
        refine point q x (by omega) hx (by simpa using hip) (S 8 0 1) 0 rfl (pk_0 hW) (fun h0 => ?_) (fun h0 => ?_)
        · rw [h0, if_pos rfl] at hp; exact hp
        · rw [if_neg h0] at hp
          exact ih (q + 1) _ (by omega) (by split <;> omega) hp
  exact key _ 0 0 rfl (by omega) hP
theorem oq_114 (h : rel_ D) {x1 x2 : Int32} : op_ X D 114 [.ref 0, .int x1, .int x2] 225 [.ref 85, .int x1, .int x2] := by
  obtain ⟨S, hr⟩ := h
  obtain ⟨hW, hC, hM, -⟩ := id hr
  have hn := wf_n hW
  refine pu_e114 ?_
  rw [sp_81a hC]
  by_cases c1 : rg_ x1 (S 8 0 0)
  · rw [nu_bT c1, if_neg (by decide), sp_140b]
    by_cases c2 : rg_ x2 12
    · rw [nu_bT c2, if_neg (by decide)]
      obtain ⟨s, hs, rfl⟩ := rg_e (by omega) c1
      obtain ⟨m, hm, rfl⟩ := rg_e (by omega) c2
      refine sp_9 hC hW hs hm fun D1 a1 g1 => ?_
      rw [sp_16 hW g1 hs]
      have hr1 := rx_ag hr (ag_mo a1 zz_ch)
      obtain ⟨-, -, hM1, -⟩ := id hr1
      refine pu_e225 ?_
      rw [mp_153 hM1, nu_bT c1, if_neg (by decide), mp_156, nu_bT c2, if_neg (by decide)]
      refine mp_217 hM1 hW hs hm fun D2 a2 g2 => ?_
      exact mp_225L (rm_ag hM1 a2 zs_m) hW hs g2 ⟨rfl, S, rx_ag hr1 (ag_mo a2 zz_zs)⟩
    · rw [nu_bF c2, if_pos rfl, sp_131_6]
      refine pu_e225 ?_
      rw [mp_153 (rm_rf hM), nu_bT c1, if_neg (by decide), mp_156, nu_bF c2, if_pos rfl, mp_150_6]
      exact ⟨rfl, S, rx_rf hr⟩
  · rw [nu_bF c1, if_pos rfl, sp_131_1]
    refine pu_e225 ?_
    rw [mp_153 (rm_rf hM), nu_bF c1, if_pos rfl, mp_150_1]
    exact ⟨rfl, S, rx_rf hr⟩
end ST
