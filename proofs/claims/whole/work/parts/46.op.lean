/-! DIM, THE WORST MONTH, JUDGE, BOUND. -/
/-- dim: from hour k - 1 down -/
def dq_ (S : Nat → Nat → Nat → Nat) (m : Nat) : Nat → Int32 → Int32
  | 0, r => r
  | k + 1, r => if ru_ S (fun j => li_ S (bb_ S) true j m + sh_ S j k) = 0 then dq_ S m k (nu_i k) else r
section OP
variable {X : px_X} {S : Nat → Nat → Nat → Nat} {D : pu_D}
theorem hd_ (k : Nat) : (if k = 0 then nu_i (k) + (-1) < (0 : Int32) else True) := by
  by_cases h : k = 0
  · subst h; rw [if_pos rfl]; decide
  · rw [if_neg h]; trivial
theorem nu_pre {k : Nat} : nu_i (k + 1) + (-1) = nu_i k := by
  rw [← nu_add k 1]
  show nu_i k + 1 + (-1) = nu_i k
  rw [Int32.add_assoc]
  have : (1 : Int32) + (-1) = 0 := by decide
  rw [this, Int32.add_zero]
theorem sp_120L (hr : rx_ S D) {m : Nat} {P : Int32 → pu_D → Prop} (hm : m < 12) : ∀ (k : Nat) (r : Int32) (D' : pu_D), k ≤ 12 → ag_ zz_ D D' → lp_ S 52 D' → (∀ j, j < S 7 0 3 * 2 → D'.1 54 j = nu_i (li_ S (bb_ S) true j m)) → (∀ D2, ag_ zz_ D D2 → P (dq_ S m k r) D2) → pu_h120_39 X r (if k = 0 then -1 else nu_i (k - 1)) D' P
  | 0, r, D', _, a, _, _, h => by
    refine pu_u120_39 ?_
    rw [if_pos rfl, if_pos (by decide)]
    exact h D' a
  | k + 1, r, D', hk, a, p, h54, h => by
    have hr1 := rx_ag hr a
    obtain ⟨hW, hC, -⟩ := id hr1
    refine pu_u120_39 ?_
    rw [if_neg (Nat.succ_ne_zero k), Nat.add_sub_cancel, if_neg (by rw [nu_lt0 (by omega)]; exact fun z => z)]
    refine sp_22 hC hW (set := bb_ S) (h := true) (m := m) (sl_bb hW) (hh := k) (by omega) p h54 fun D2 a2 p2 l2 => ?_
    have hC2 := re_Z hC a2 (fun q j hz => by omega)
    have az : ag_ zz_ D D2 := ag_tr a (ag_mo a2 fun q j hz => by unfold zz_; omega)
    have hru := ru_le (S := S) (f := fun j => li_ S (bb_ S) true j m + sh_ S j k)
    rw [sp_23 hC2 hW (Or.inl rfl) p2 l2]
    have e : ∀ D3 : pu_D, dq_ S m (k + 1) r = (if ru_ S (fun j => li_ S (bb_ S) true j m + sh_ S j k) = 0 then dq_ S m k (nu_i k) else r) := fun _ => rfl
    rw [e D2] at h
    by_cases h0 : ru_ S (fun j => li_ S (bb_ S) true j m + sh_ S j k) = 0
    · rw [if_pos (by rw [h0]; rfl)]
      rw [if_pos h0] at h
      have h54' : ∀ j, j < S 7 0 3 * 2 → D2.1 54 j = nu_i (li_ S (bb_ S) true j m) := fun j hj => (a2.1 _ _ (by omega)).trans (h54 j hj)
      have := sp_120L hr hm k (nu_i k) D2 (by omega) az p2 h54' h
      cases k with
      | zero => exact this
      | succ k => rw [nu_pre]; exact this
    · rw [if_neg (by rw [nu_eqn (by omega) (by omega)]; exact h0)]
      rw [if_neg h0] at h
      exact h D2 az
theorem mp_231L (hr : rx_ S D) {m : Nat} {P : Int32 → pu_D → Prop} (hm : m < 12) : ∀ (k : Nat) (r : Int32) (D' : pu_D), k ≤ 12 → ag_ zz_ D D' → (∀ D2, ag_ zz_ D D2 → P (dq_ S m k r) D2) → pu_h231_20 X (nu_i m) r (if k = 0 then -1 else nu_i (k - 1)) D' P
  | 0, r, D', _, a, h => by
    refine pu_u231_20 ?_
    rw [if_pos rfl, if_pos (by decide)]
    exact h D' a
  | k + 1, r, D', hk, a, h => by
    have hr1 := rx_ag hr a
    obtain ⟨hW, -, hM, -⟩ := id hr1
    refine pu_u231_20 ?_
    rw [if_neg (Nat.succ_ne_zero k), Nat.add_sub_cancel, if_neg (by rw [nu_lt0 (by omega)]; exact fun z => z)]
    refine mp_212 (X := X) hM hW (k := 4) (a := 0) (w := 0) (m := m) (hh := k) (by omega) (by omega) (by omega) (by omega) hm (by omega) fun D2 a2 l2 => ?_
    have hM2 := rm_ag hM a2 zj_m
    have hbn : bn_ S 4 0 0 = bb_ S := rfl
    have hhb : hb_ 4 0 k = true := by simp [hb_]
    rw [hbn, hhb] at l2
    refine mp_211 hM2 hW l2 fun D3 a3 _ => ?_
    have az : ag_ zz_ D D3 := ag_tr a (ag_tr (ag_mo a2 zz_zj) (ag_mo a3 fun q j hz => by unfold zz_; omega))
    have hru := ru_le (S := S) (f := fun j => li_ S (bb_ S) true j m + sh_ S j k)
    have e : ∀ D3 : pu_D, dq_ S m (k + 1) r = (if ru_ S (fun j => li_ S (bb_ S) true j m + sh_ S j k) = 0 then dq_ S m k (nu_i k) else r) := fun _ => rfl
    rw [e D2] at h
    by_cases h0 : ru_ S (fun j => li_ S (bb_ S) true j m + sh_ S j k) = 0
    · rw [if_pos (by rw [h0]; rfl)]
      rw [if_pos h0] at h
      have := mp_231L hr hm k (nu_i k) D3 (by omega) az h
      cases k with
      | zero => exact this
      | succ k => rw [nu_pre]; exact this
    · rw [if_neg (by rw [nu_eqn (by omega) (by omega)]; exact h0)]
      rw [if_neg h0] at h
      exact h D3 az
theorem oq_120 (h : rel_ D) {x1 : Int32} : op_ X D 120 [.ref 0, .int x1] 231 [.ref 85, .int x1] := by
  obtain ⟨S, hr⟩ := h
  obtain ⟨hW, hC, hM, -⟩ := id hr
  refine pu_e120 ?_
  rw [sp_140b]
  by_cases c1 : rg_ x1 12
  · obtain ⟨m, hm, rfl⟩ := rg_e (by omega) c1
    rw [nu_bT c1, if_neg (by decide), sp_56 hC hW]
    refine sp_21 (X := X) hC hW (set := bb_ S) (h := true) (sl_bb hW) hm fun D1 a1 p1 h54 => ?_
    have az : ag_ zz_ D D1 := ag_mo a1 fun q j hz => by unfold zz_; omega
    refine sp_120L hr hm 12 (-1) D1 (Nat.le_refl _) az p1 h54 fun D2 a2 => ?_
    refine pu_e231 ?_
    rw [mp_156, nu_bT c1, if_neg (by decide)]
    refine mp_231L (rx_ag hr a2) hm 12 (-1) D2 (Nat.le_refl _) (ag_rf D2) fun D3 a3 => ?_
    exact ⟨rfl, S, rx_ag hr (ag_tr a2 a3)⟩
  · rw [nu_bF c1, if_pos rfl, sp_131_6]
    refine pu_e231 ?_
    rw [mp_156, nu_bF c1, if_pos rfl, mp_150_6]
    exact ⟨rfl, S, rx_rf hr⟩
/-- the worst month: (month, least light) -/
def wg_ (S : Nat → Nat → Nat → Nat) (m : Nat) : Nat := (dd_ S (fun j => l0_ S j m)).2
def ww_ (S : Nat → Nat → Nat → Nat) (n : Nat) : Nat × Nat := fo_ (fun m r => if m = 0 then (0, wg_ S 0) else if wg_ S m < r.2 then (m, wg_ S m) else r) n (0, 0)
theorem ww_succ {n : Nat} : ww_ S (n + 1) = (if n = 0 then (0, wg_ S 0) else if wg_ S n < (ww_ S n).2 then (n, wg_ S n) else ww_ S n) := rfl
theorem dk_none {f g : Nat → Nat} {n : Nat} : (dk_ S f n).1 = 0 ↔ (dk_ S g n).1 = 0 := by
  induction n with
  | zero => exact Iff.rfl
  | succ n ih =>
    rw [dk_succ, dk_succ]
    by_cases h : ip_ S n = true
    · rw [if_pos h, if_pos h]; exact ih
    · rw [if_neg h, if_neg h]
      by_cases h1 : (dk_ S f n).1 = 0
      · rw [if_pos h1, if_pos (ih.mp h1)]
      · rw [if_neg h1, if_neg (fun z => h1 (ih.mpr z))]
        have h2 : ¬ (dk_ S g n).1 = 0 := fun z => h1 (ih.mpr z)
        constructor <;> intro z <;> exfalso
        · split at z
          · exact absurd z (Nat.succ_ne_zero _)
          · exact h1 z
        · split at z
          · exact absurd z (Nat.succ_ne_zero _)
          · exact h2 z
theorem lv_l0 {q m m' : Nat} (h : lv_ m = lv_ m') : l0_ S q m = l0_ S q m' := by
  unfold l0_ li_
  congr 1
  refine su_congr fun p hp => ?_
  have : ∀ p s, gv_ S p s q m = gv_ S p s q m' := by
    intro p s
    unfold gv_
    have : sd_ m = sd_ m' := by funext x; unfold sd_; rw [h]
    rw [this]
  unfold ol_
  rw [this]
theorem lv_wg {m m' : Nat} (h : lv_ m = lv_ m') : wg_ S m = wg_ S m' := by
  unfold wg_
  have : (fun j => l0_ S j m) = (fun j => l0_ S j m') := funext fun j => lv_l0 h
  rw [this]
theorem ww_6 : ww_ S 12 = ww_ S 6 := by
  have hmin : ∀ n, 1 ≤ n → ∀ m, m < n → (ww_ S n).2 ≤ wg_ S m := by
    intro n
    induction n with
    | zero => exact fun h => absurd h (by omega)
    | succ n ih =>
      intro _ m hm
      rw [ww_succ]
      by_cases h0 : n = 0
      · subst h0
        rw [if_pos rfl]
        have : m = 0 := by omega
        subst this; exact Nat.le_refl _
      · rw [if_neg h0]
        by_cases h1 : wg_ S n < (ww_ S n).2
        · rw [if_pos h1]
          by_cases h2 : m = n
          · subst h2; exact Nat.le_refl _
          · have := ih (by omega) m (by omega)
            show wg_ S n ≤ wg_ S m
            omega
        · rw [if_neg h1]
          by_cases h2 : m = n
          · subst h2; omega
          · exact ih (by omega) m (by omega)
  have step : ∀ n m, 6 ≤ n → m < 6 → lv_ n = lv_ m → ww_ S n = ww_ S 6 → ww_ S (n + 1) = ww_ S 6 := by
    intro n m h1 h2 h3 h4
    rw [ww_succ, if_neg (by omega), h4, lv_wg h3, if_neg (by have := hmin 6 (by omega) m h2; omega)]
  have s7 := step 6 5 (by omega) (by omega) rfl rfl
  have s8 := step 7 5 (by omega) (by omega) rfl s7
  have s9 := step 8 4 (by omega) (by omega) rfl s8
  have s10 := step 9 3 (by omega) (by omega) rfl s9
  have s11 := step 10 0 (by omega) (by omega) rfl s10
  exact step 11 0 (by omega) (by omega) rfl s11
theorem wg_le (hW : wf_ S) {m : Nat} : wg_ S m ≤ 900000 := by
  have hd := dk_le (S := S) (f := fun j => l0_ S j m) (n := S 7 0 3 * 2)
  unfold wg_ dd_
  by_cases h0 : (dk_ S (fun j => l0_ S j m) (S 7 0 3 * 2)).1 = 0
  · rw [hd.2.2 h0]; omega
  · rw [hd.2.1 h0]; exact l0_le hW
theorem ww_le (hW : wf_ S) {n : Nat} : (ww_ S n).2 ≤ 900000 ∧ (ww_ S n).1 ≤ n := by
  induction n with
  | zero => exact ⟨Nat.zero_le _, Nat.le_refl _⟩
  | succ n ih =>
    rw [ww_succ]
    split
    · exact ⟨wg_le hW, Nat.zero_le _⟩
    · split
      · exact ⟨wg_le hW, by show n ≤ n + 1; omega⟩
      · exact ⟨ih.1, by omega⟩
/-- what the month at worst is -/
def wo2_ (S : Nat → Nat → Nat → Nat) (n : Nat) : Nat := if (dd_ S (fun j => l0_ S j 0)).1 = 0 then 0 else (ww_ S n).1
theorem mp_228L (hM : re_M S D) (hW : wf_ S) {f : Nat → Nat} {x1 x2 x3 : Int32} {P : Int32 → pu_D → Prop} (hl : lm_ S f D) (h : pu_h228_27 X x1 x2 x3 (if (dd_ S f).1 = 0 then -1 else nu_i (dd_ S f).2) (nu_i (S 7 0 3 * 2)) D P) : pu_h228_27 X x1 x2 x3 (-1) 0 D P := by
  have hMM := wf_m hW
  obtain ⟨-, -, -, m3⟩ := rm_m hM
  refine lo_ix (fun (r : Nat × Nat) x => pu_h228_27 X x1 x2 x3 (if r.1 = 0 then -1 else nu_i r.2) x D P) (S 7 0 3 * 2) (dk_ S f) (fun i hi hy => ?_) h
  have hv := hl i hi
  have hd := dk_le (S := S) (f := f) (n := i)
  have hd2 : (dk_ S f i).2 ≤ 1000000 := by
    by_cases h0 : (dk_ S f i).1 = 0
    · rw [hd.2.2 h0]; omega
    · rw [hd.2.1 h0]; exact (hl _ (by omega)).2
  rw [dk_succ] at hy
  refine pu_u228_27 ?_
  simp (disch := omega) only [m3, nu_nmul, Nat.mul_comm 2, nu_lt, hi, if_true, mp_210 hM hW (q := i) (by omega), nu_b0, nu_in, nu_ix, hv.1, nu_addn]
  by_cases hp : ip_ S i = true
  · rw [if_neg (show ¬ ¬ _ from fun z => z hp)]; rw [if_pos hp] at hy; exact hy
  · rw [if_pos hp]; rw [if_neg hp] at hy
    by_cases h0 : (dk_ S f i).1 = 0
    · rw [if_pos h0, if_pos rfl]
      rw [if_pos h0, if_neg (Nat.succ_ne_zero i)] at hy
      exact ⟨by omega, hy⟩
    · rw [if_neg h0] at hy
      rw [if_neg h0, if_neg (by rw [nu_m1 (by omega)]; exact fun z => z)]
      refine ⟨by omega, ?_⟩
      by_cases h3 : f i < (dk_ S f i).2
      · rw [if_pos (nu_ltp (by omega) h3)]
        rw [if_pos h3, if_neg (Nat.succ_ne_zero i)] at hy
        exact ⟨by omega, hy⟩
      · rw [if_neg (nu_ltx (by omega) h3)]
        rw [if_neg h3, if_neg h0] at hy
        exact hy
theorem oq_117 (h : rel_ D) : op_ X D 117 [.ref 0] 228 [.ref 85] := by
  obtain ⟨S, hr⟩ := h
  obtain ⟨hW, hC, hM, -⟩ := id hr
  have hn := wf_n hW
  have hMM := wf_m hW
  have hnone : ∀ m, (dd_ S (fun j => l0_ S j m)).1 = 0 ↔ (dd_ S (fun j => l0_ S j 0)).1 = 0 := fun m => dk_none
  refine pu_e117 ?_
  refine lo_S (fun i (r : (Nat × Int32) × pu_D) => ag_ zz_ D r.2 ∧ r.1.1 = wo2_ S i ∧ (1 ≤ i → r.1.2 = if (dd_ S (fun j => l0_ S j 0)).1 = 0 then -1 else nu_i (ww_ S i).2)) (fun r x => pu_h117_6 X (nu_i r.1.1) r.1.2 x r.2 _) 6 ((0, 0), D) ⟨ag_rf D, by unfold wo2_; split <;> rfl, fun z => absurd z (by omega)⟩ (fun i r hi hI hk2 => ?_) (fun r hI => ?_)
  · obtain ⟨⟨b, v⟩, D'⟩ := r
    obtain ⟨a1, hb, hv⟩ := hI
    dsimp only at a1 hb hv
    have hr1 := rx_ag hr a1
    have hC1 := hr1.2.1
    have hwl := ww_le hW (n := i)
    have hwg := wg_le hW (m := i)
    refine pu_u117_6 ?_
    dsimp only
    rw [if_pos (show nu_i i < (6 : Int32) from nu_ltp (b := 6) (by omega) hi), sp_56 hC1 hW]
    refine sp_21 (X := X) hC1 hW (set := bb_ S) (h := false) (m := i) (sl_bb hW) (by omega) fun D1 a2 p1 h54 => ?_
    have hC2 := re_Z hC1 a2 (fun q j hz => by omega)
    refine sp_22 (X := X) hC2 hW (set := bb_ S) (h := false) (m := i) (sl_bb hW) (hh := 0) (by omega) p1 h54 fun D2 a3 p2 l2 => ?_
    have az : ag_ zz_ D D2 := ag_tr a1 (ag_tr (ag_mo a2 fun q j hz => by unfold zz_; omega) (ag_mo a3 fun q j hz => by unfold zz_; omega))
    have l2' : ll_ S 52 (fun j => l0_ S j i) D2 := l2
    rw [sp_25 hW p2 l2', nu_addn]
    have hne := hnone i
    by_cases hn0 : (dd_ S (fun j => l0_ S j 0)).1 = 0
    · rw [if_pos (hne.mpr hn0)]
      have e0 : wo2_ S (i + 1) = 0 := by unfold wo2_; rw [if_pos hn0]
      have e1 : b = 0 := by rw [hb]; unfold wo2_; rw [if_pos hn0]
      by_cases hi0 : i = 0
      · subst hi0
        rw [if_pos (show nu_i 0 = (0 : Int32) from rfl)]
        exact hk2 ((0, -1), D2) ⟨az, e0.symm, fun _ => by rw [if_pos hn0]⟩
      · rw [if_neg (by rw [nu_eqn (by omega) (by omega)]; exact hi0)]
        have hv' := hv (by omega)
        rw [if_pos hn0] at hv'
        rw [hv', if_neg (by decide)]
        exact hk2 ((b, -1), D2) ⟨az, by rw [e0, e1], fun _ => by rw [if_pos hn0]⟩
    · rw [if_neg (fun z => hn0 (hne.mp z))]
      have hws := ww_succ (S := S) (n := i)
      have e0 : wo2_ S (i + 1) = (ww_ S (i + 1)).1 := by unfold wo2_; rw [if_neg hn0]
      change if nu_i i = 0 then pu_h117_6 X (nu_i i) (nu_i (wg_ S i)) _ _ _ else if nu_i (wg_ S i) < v then _ else _
      by_cases hi0 : i = 0
      · subst hi0
        rw [if_pos (show nu_i 0 = (0 : Int32) from rfl)]
        rw [if_pos rfl] at hws
        exact hk2 ((0, nu_i (wg_ S 0)), D2) ⟨az, by rw [e0, hws], fun _ => by rw [if_neg hn0, hws]⟩
      · rw [if_neg (by rw [nu_eqn (by omega) (by omega)]; exact hi0)]
        have hv' := hv (by omega)
        rw [if_neg hn0] at hv'
        rw [if_neg hi0] at hws
        rw [hv']
        by_cases h3 : wg_ S i < (ww_ S i).2
        · rw [if_pos (nu_ltp (by omega) h3)]
          rw [if_pos h3] at hws
          exact hk2 ((i, nu_i (wg_ S i)), D2) ⟨az, by rw [e0, hws], fun _ => by rw [if_neg hn0, hws]⟩
        · rw [if_neg (nu_ltx (by omega) h3)]
          rw [if_neg h3] at hws
          have e2 : b = (ww_ S i).1 := by rw [hb]; unfold wo2_; rw [if_neg hn0]
          exact hk2 ((b, nu_i (ww_ S i).2), D2) ⟨az, by rw [e0, hws, e2], fun _ => by rw [if_neg hn0, hws]⟩
  · obtain ⟨⟨b, v⟩, D'⟩ := r
    obtain ⟨a1, hb, hv⟩ := hI
    dsimp only at a1 hb hv
    have hr1 := rx_ag hr a1
    have hM1 := hr1.2.2.1
    refine pu_u117_6 ?_
    dsimp only
    rw [if_neg (show ¬ nu_i 6 < (6 : Int32) from nu_ltx (b := 6) (by omega) (Nat.lt_irrefl _))]
    have hb12 : b = wo2_ S 12 := by rw [hb]; unfold wo2_; rw [ww_6]
    refine pu_e228 ?_
    refine lo_S (fun i (r : (Nat × Int32) × pu_D) => ag_ zz_ D' r.2 ∧ r.1.1 = wo2_ S i ∧ r.1.2 = if (dd_ S (fun j => l0_ S j 0)).1 = 0 ∨ i = 0 then -1 else nu_i (ww_ S i).2) (fun r x => pu_h228_6 X (nu_i r.1.1) r.1.2 x r.2 _) 12 ((0, -1), D') ⟨ag_rf D', by unfold wo2_; split <;> rfl, by rw [if_pos (Or.inr rfl)]⟩ (fun i r hi hI hk2 => ?_) (fun r hI => ?_)
    · obtain ⟨⟨c, u⟩, D2⟩ := r
      obtain ⟨a2, hc, hu⟩ := hI
      dsimp only at a2 hc hu
      have hr2 := rx_ag hr1 a2
      have hM2 := hr2.2.2.1
      have hwl := ww_le hW (n := i)
      have hwg := wg_le hW (m := i)
      refine pu_u228_6 ?_
      dsimp only
      rw [if_pos (show nu_i i < (12 : Int32) from nu_ltp (b := 12) (by omega) hi)]
      refine mp_212 (X := X) hM2 hW (k := 0) (a := 0) (w := 0) (m := i) (hh := 0) (by omega) (by omega) (by omega) (by omega) hi (by omega) fun D3 a3 l3 => ?_
      have hM3 := rm_ag hM2 a3 zj_m
      have l3' : lm_ S (fun j => l0_ S j i) D3 := l3
      have az : ag_ zz_ D' D3 := ag_tr a2 (ag_mo a3 zz_zj)
      refine mp_228L hM3 hW l3' ?_
      obtain ⟨-, -, -, m3⟩ := rm_m hM3
      refine pu_u228_27 ?_
      rw [m3, nu_nmul, show (OfNat.ofNat 2 : Nat) * S 7 0 3 = S 7 0 3 * 2 from Nat.mul_comm _ _, if_neg (nu_ltx (by omega) (Nat.lt_irrefl _)), nu_addn]
      have hne := hnone i
      by_cases hn0 : (dd_ S (fun j => l0_ S j 0)).1 = 0
      · rw [if_pos (hne.mpr hn0), if_pos rfl]
        have e0 : wo2_ S (i + 1) = wo2_ S i := by unfold wo2_; rw [if_pos hn0, if_pos hn0]
        rw [if_pos (Or.inl hn0)] at hu
        exact hk2 ((c, u), D3) ⟨az, by rw [e0]; exact hc, by rw [if_pos (Or.inl hn0)]; exact hu⟩
      · rw [if_neg (fun z => hn0 (hne.mp z))]
        have hws := ww_succ (S := S) (n := i)
        have e0 : wo2_ S (i + 1) = (ww_ S (i + 1)).1 := by unfold wo2_; rw [if_neg hn0]
        have e9 : ∀ y : Int32, (if (dd_ S (fun j => l0_ S j 0)).1 = 0 ∨ i + 1 = 0 then (-1 : Int32) else y) = y := fun y => if_neg (fun z => z.elim hn0 (by omega))
        change if nu_i (wg_ S i) = -1 then _ else if u = -1 then pu_h228_6 X (nu_i i) (nu_i (wg_ S i)) _ _ _ else if nu_i (wg_ S i) < u then pu_h228_6 X (nu_i i) (nu_i (wg_ S i)) _ _ _ else _
        rw [if_neg (by rw [nu_m1 (by omega)]; exact fun z => z)]
        by_cases hi0 : i = 0
        · subst hi0
          rw [if_pos (Or.inr rfl)] at hu
          rw [if_pos hu]
          rw [if_pos rfl] at hws
          exact hk2 ((0, nu_i (wg_ S 0)), D3) ⟨az, by rw [e0, hws], by rw [e9, hws]⟩
        · rw [if_neg (fun z => z.elim hn0 hi0)] at hu
          rw [if_neg hi0] at hws
          rw [hu, if_neg (by rw [nu_m1 (by omega)]; exact fun z => z)]
          by_cases h3 : wg_ S i < (ww_ S i).2
          · rw [if_pos (nu_ltp (by omega) h3)]
            rw [if_pos h3] at hws
            exact hk2 ((i, nu_i (wg_ S i)), D3) ⟨az, by rw [e0, hws], by rw [e9, hws]⟩
          · rw [if_neg (nu_ltx (by omega) h3)]
            rw [if_neg h3] at hws
            have e2 : c = (ww_ S i).1 := by rw [hc]; unfold wo2_; rw [if_neg hn0]
            exact hk2 ((c, nu_i (ww_ S i).2), D3) ⟨az, by rw [e0, hws, e2], by rw [e9, hws]⟩
    · obtain ⟨⟨c, u⟩, D2⟩ := r
      obtain ⟨a2, hc, hu⟩ := hI
      dsimp only at a2 hc hu
      refine pu_u228_6 ?_
      dsimp only
      rw [if_neg (show ¬ nu_i 12 < (12 : Int32) from nu_ltx (b := 12) (by omega) (Nat.lt_irrefl _))]
      exact ⟨by rw [hb12, hc], S, rx_ag hr1 a2⟩
end OP
