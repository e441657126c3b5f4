/-! THE TWO SIDES TELL THE SAME: what holds between the calls. -/
abbrev rg_ (x : Int32) (n : Nat) : Prop := ¬ x < 0 ∧ x < nu_i n
theorem rg_e {x : Int32} {n : Nat} (hn : n < 2147483648) (h : rg_ x n) : ∃ a, a < n ∧ x = nu_i a := by
  have h1 := nu_ge h.1
  have h2 := h.2
  rw [h1, nu_lt (nu_geb x) hn] at h2
  exact ⟨_, h2, h1⟩
theorem rg_i {a n : Nat} (hn : n < 2147483648) (h : a < n) : rg_ (nu_i a) n := ⟨by rw [nu_lt0 (by omega)]; exact fun z => z, by rw [nu_lt (by omega) hn]; exact h⟩
def no_ (D : pu_D) (n : Nat) : Prop := D.1 103 n = 0 ∧ D.1 (69 + 2 * n) 1 = -1
def ro_ (D : pu_D) (n so sz : Nat) : Prop := so < 4 ∧ sz ≤ 120 ∧ D.1 103 n = 1 ∧ D.1 104 n = nu_i so ∧ D.1 (69 + 2 * n) 1 = nu_i (100 + so) ∧ D.1 105 n = nu_i sz ∧ D.1 (69 + 2 * n) 2 = nu_i sz ∧ ∀ i, i < sz → D.2 (70 + 2 * n) i = D.2 108 (120 * n + i)
def la_ (D : pu_D) (n k a w v : Nat) : Prop := ly_ D (69 + 2 * n) k a w ∧ v < 512 ∧ (k = 5 → v = w) ∧ D.1 103 n = 2 ∧ D.1 106 n = nu_i k ∧ D.1 107 n = nu_i a ∧ D.1 105 n = nu_i v
def sf_ (D : pu_D) (n : Nat) : Prop := no_ D n ∨ (∃ so sz, ro_ D n so sz) ∨ ∃ k a w v, la_ D n k a w v
def ko_ (t : Nat) : Nat := [0, 24, 60, 72, 84, 108, 132].getD t 0
def re_K (K : Nat → Nat → Nat → Nat) (D : pu_D) : Prop := (∀ t, t < 7 → D.1 117 t = nu_i (K 8 0 t) ∧ ∀ w, w < wd_ t → ∀ i, i < K 8 0 t → D.1 112 (ko_ t + w * mo_ t + i) = en_ t w (K t i w)) ∧ ∀ j, j < 4 → D.1 117 (7 + j) = nu_i (K 7 0 j)
def kp_ (D : pu_D) : Prop := D.1 0 3 = D.1 85 51 ∧ (D.1 0 3 = 0 ∨ (D.1 0 3 = 1 ∧ ∃ K, wf_ K ∧ re_C 33 K D ∧ re_K K D))
def tr_ (D : pu_D) : Prop := ∃ r, r ≤ 20 ∧ D.1 66 1 = nu_i r ∧ D.1 85 49 = nu_i r ∧ ∀ i, i < r → D.1 67 i = D.1 116 i
/-- the reference's words, its letters, blanks and noughts -/
def wl_ : List Nat := [108, 101, 97, 115, 116, 32, 0, 101, 118, 101, 110, 32, 0, 119, 105, 100, 101, 32, 0, 108, 111, 110, 103, 32, 0, 115, 111, 114, 116, 32, 0, 112, 108, 97, 99, 101, 32, 0, 116, 114, 101, 101, 32, 0, 119, 97, 108, 108, 32, 0, 112, 111, 111, 108, 32, 0, 119, 105, 110, 100, 111, 119, 32, 0, 115, 104, 111, 112, 32, 0]
def rx_ (S : Nat → Nat → Nat → Nat) (D : pu_D) : Prop := wf_ S ∧ re_C 1 S D ∧ re_M S D ∧ (∀ b, b = 17 ∨ b = 33 → ∀ t, t < 7 → D.1 (b + 2 + 2 * t) 0 = nu_i (mo_ t)) ∧ kp_ D ∧ (∀ n, n < 8 → sf_ D n) ∧ (∀ k, 1 ≤ k → k ≤ 7 → D.1 68 k = D.1 86 k) ∧ D.1 0 10 = D.1 85 11 ∧ tr_ D ∧ ∀ i, i < 70 → D.1 110 i = nu_i (wl_.getD i 0)
def rel_ (D : pu_D) : Prop := ∃ S, rx_ S D
/-- what may change unseen -/
def zz_ (q j : Nat) : Prop := (q = 50 ∧ 1 ≤ j) ∨ q = 51 ∨ (52 ≤ q ∧ q ≤ 65) ∨ (q = 66 ∧ 2 ≤ j) ∨ (18 ≤ q ∧ q ≤ 32 ∧ ¬ (j = 0 ∧ q % 2 = 1)) ∨ q = 111 ∨ q = 113 ∨ q = 114 ∨ q = 115 ∨ (q = 85 ∧ ((37 ≤ j ∧ j ≤ 41) ∨ j = 45))
theorem re_Cag {b : Nat} {S : Nat → Nat → Nat → Nat} {Z : Nat → Nat → Prop} {D D' : pu_D} (hC : re_C b S D) (h : ag_ Z D D') (hZ : ∀ q j, b + 1 ≤ q → q ≤ b + 15 → ¬ Z q j) : re_C b S D' := by
  refine ⟨fun t ht => ⟨?_, ?_, fun i hi w hw => ?_⟩, fun j hj => ?_⟩
  · rw [h.1 _ _ (hZ _ _ (by omega) (by omega))]; exact (hC.1 t ht).1
  · rw [h.1 _ _ (hZ _ _ (by omega) (by omega))]; exact (hC.1 t ht).2.1
  · rw [h.1 _ _ (hZ _ _ (by omega) (by omega))]; exact (hC.1 t ht).2.2 i hi w hw
  · rw [h.1 _ _ (hZ _ _ (by omega) (by omega))]; exact hC.2 j hj
theorem no_ag {Z : Nat → Nat → Prop} {D D' : pu_D} {n : Nat} (hn : n < 8) (h : no_ D n) (a : ag_ Z D D') (hZ : ∀ q j, Z q j → ¬ (69 ≤ q ∧ q ≤ 84) ∧ ¬ (103 ≤ q ∧ q ≤ 108)) : no_ D' n := by
  have e : ∀ q j, ((69 ≤ q ∧ q ≤ 84) ∨ (103 ≤ q ∧ q ≤ 108)) → D'.1 q j = D.1 q j := fun q j hq => a.1 q j fun z => by have := hZ q j z; omega
  exact ⟨by rw [e _ _ (by omega)]; exact h.1, by rw [e _ _ (by omega)]; exact h.2⟩
theorem ro_ag {Z : Nat → Nat → Prop} {D D' : pu_D} {n so sz : Nat} (hn : n < 8) (h : ro_ D n so sz) (a : ag_ Z D D') (hZ : ∀ q j, Z q j → ¬ (69 ≤ q ∧ q ≤ 84) ∧ ¬ (103 ≤ q ∧ q ≤ 108)) : ro_ D' n so sz := by
  have e : ∀ q j, ((69 ≤ q ∧ q ≤ 84) ∨ (103 ≤ q ∧ q ≤ 108)) → D'.1 q j = D.1 q j := fun q j hq => a.1 q j fun z => by have := hZ q j z; omega
  obtain ⟨h1, h2, h3, h4, h5, h6, h7, h8⟩ := h
  exact ⟨h1, h2, by rw [e _ _ (by omega)]; exact h3, by rw [e _ _ (by omega)]; exact h4, by rw [e _ _ (by omega)]; exact h5, by rw [e _ _ (by omega)]; exact h6, by rw [e _ _ (by omega)]; exact h7, by rw [a.2]; exact h8⟩
theorem la_ag {Z : Nat → Nat → Prop} {D D' : pu_D} {n k b w v : Nat} (hn : n < 8) (h : la_ D n k b w v) (a : ag_ Z D D') (hZ : ∀ q j, Z q j → ¬ (69 ≤ q ∧ q ≤ 84) ∧ ¬ (103 ≤ q ∧ q ≤ 108)) : la_ D' n k b w v := by
  have e : ∀ q j, ((69 ≤ q ∧ q ≤ 84) ∨ (103 ≤ q ∧ q ≤ 108)) → D'.1 q j = D.1 q j := fun q j hq => a.1 q j fun z => by have := hZ q j z; omega
  obtain ⟨⟨g1, g2, g3, g4⟩, h2, h3, h4, h5, h6, h7⟩ := h
  exact ⟨⟨by rw [e _ _ (by omega)]; exact g1, by rw [e _ _ (by omega)]; exact g2, by rw [e _ _ (by omega)]; exact g3, g4⟩, h2, h3, by rw [e _ _ (by omega)]; exact h4, by rw [e _ _ (by omega)]; exact h5, by rw [e _ _ (by omega)]; exact h6, by rw [e _ _ (by omega)]; exact h7⟩
theorem sf_ag {Z : Nat → Nat → Prop} {D D' : pu_D} {n : Nat} (hn : n < 8) (h : sf_ D n) (a : ag_ Z D D') (hZ : ∀ q j, Z q j → ¬ (69 ≤ q ∧ q ≤ 84) ∧ ¬ (103 ≤ q ∧ q ≤ 108)) : sf_ D' n := by
  rcases h with h | ⟨so, sz, h⟩ | ⟨k, b, w, v, h⟩
  · exact Or.inl (no_ag hn h a hZ)
  · exact Or.inr (Or.inl ⟨so, sz, ro_ag hn h a hZ⟩)
  · exact Or.inr (Or.inr ⟨k, b, w, v, la_ag hn h a hZ⟩)
theorem zz_sh : ∀ q j, zz_ q j → ¬ (69 ≤ q ∧ q ≤ 84) ∧ ¬ (103 ≤ q ∧ q ≤ 108) := fun q j h => by unfold zz_ at h; omega
theorem kp_ag {Z : Nat → Nat → Prop} {D D' : pu_D} (h : kp_ D) (a : ag_ Z D D') (hZ : ∀ q j, Z q j → ¬ (34 ≤ q ∧ q ≤ 48) ∧ ¬ (q = 0 ∧ j = 3) ∧ ¬ (q = 85 ∧ j = 51) ∧ q ≠ 112 ∧ q ≠ 117) : kp_ D' := by
  have e : ∀ q j, ((q = 0 ∧ j = 3) ∨ (q = 85 ∧ j = 51) ∨ q = 112 ∨ q = 117) → D'.1 q j = D.1 q j := fun q j hq => a.1 q j fun z => by have := hZ q j z; omega
  obtain ⟨h1, h2⟩ := h
  refine ⟨by rw [e _ _ (by omega), e _ _ (by omega)]; exact h1, ?_⟩
  rw [e 0 3 (by omega)]
  rcases h2 with h2 | ⟨h2, K, k1, k2, k3⟩
  · exact Or.inl h2
  · refine Or.inr ⟨h2, K, k1, re_Cag k2 a (fun q j h3 h4 z => by have := hZ q j z; omega), fun t ht => ⟨?_, fun w hw i hi => ?_⟩, fun j hj => ?_⟩
    · rw [e _ _ (by omega)]; exact (k3.1 t ht).1
    · rw [e _ _ (by omega)]; exact (k3.1 t ht).2 w hw i hi
    · rw [e _ _ (by omega)]; exact k3.2 j hj
theorem tr_ag {Z : Nat → Nat → Prop} {D D' : pu_D} (h : tr_ D) (a : ag_ Z D D') (hZ : ∀ q j, Z q j → ¬ (q = 66 ∧ j = 1) ∧ ¬ (q = 85 ∧ j = 49) ∧ q ≠ 67 ∧ q ≠ 116) : tr_ D' := by
  have e : ∀ q j, ((q = 66 ∧ j = 1) ∨ (q = 85 ∧ j = 49) ∨ q = 67 ∨ q = 116) → D'.1 q j = D.1 q j := fun q j hq => a.1 q j fun z => by have := hZ q j z; omega
  obtain ⟨r, h1, h2, h3, h4⟩ := h
  exact ⟨r, h1, by rw [e _ _ (by omega)]; exact h2, by rw [e _ _ (by omega)]; exact h3, fun i hi => by rw [e _ _ (by omega), e _ _ (by omega)]; exact h4 i hi⟩
theorem rx_ag {S : Nat → Nat → Nat → Nat} {D D' : pu_D} (h : rx_ S D) (a : ag_ zz_ D D') : rx_ S D' := by
  obtain ⟨h1, h2, h3, h4, h5, h6, h7, h8, h9, h10⟩ := h
  have e : ∀ q j, ¬ zz_ q j → D'.1 q j = D.1 q j := a.1
  refine ⟨h1, re_Cag h2 a (fun q j x y z => by unfold zz_ at z; omega), rm_ag h3 a (fun q j z => by unfold zz_ at z; omega), fun b hb t ht => ?_, kp_ag h5 a (fun q j z => by unfold zz_ at z; omega), fun n hn => sf_ag hn (h6 n hn) a zz_sh, fun k hk1 hk2 => ?_, ?_, tr_ag h9 a (fun q j z => by unfold zz_ at z; omega), fun i hi => ?_⟩
  · rw [e _ _ (by unfold zz_; omega)]; exact h4 b hb t ht
  · rw [e _ _ (by unfold zz_; omega), e _ _ (by unfold zz_; omega)]; exact h7 k hk1 hk2
  · rw [e _ _ (by unfold zz_; omega), e _ _ (by unfold zz_; omega)]; exact h8
  · rw [e _ _ (by unfold zz_; omega)]; exact h10 i hi
/-- refusals counted -/
def rf_ (D : pu_D) (k : Nat) : pu_D := pu_wi D 68 k (D.1 68 k + 1)
def rn_ (D : pu_D) (k : Nat) : pu_D := pu_wi D 86 k (D.1 86 k + 1)
theorem rx_rf {S : Nat → Nat → Nat → Nat} {D : pu_D} {k : Nat} (h : rx_ S D) : rx_ S (rn_ (rf_ D k) k) := by
  have a : ag_ (fun q _ => q = 68 ∨ q = 86) D (rn_ (rf_ D k) k) := ag_wi (ag_wi (ag_rf D) (Or.inl rfl)) (Or.inr rfl)
  obtain ⟨h1, h2, h3, h4, h5, h6, h7, h8, h9, h10⟩ := h
  have e : ∀ q j, ¬ (q = 68 ∨ q = 86) → (rn_ (rf_ D k) k).1 q j = D.1 q j := a.1
  refine ⟨h1, re_Cag h2 a (fun q j x y z => by omega), rm_ag h3 a (fun q j z => by omega), fun b hb t ht => ?_, kp_ag h5 a (fun q j z => by omega), fun n hn => sf_ag hn (h6 n hn) a (fun q j z => by omega), fun j hk1 hk2 => ?_, ?_, tr_ag h9 a (fun q j z => by omega), fun i hi => ?_⟩
  · rw [e _ _ (by omega)]; exact h4 b hb t ht
  · unfold rn_ rf_
    rw [wi_q (show ¬ 68 = 86 by omega), wi_q (show ¬ 86 = 68 by omega)]
    by_cases hj : j = k
    · subst hj; rw [wi_eq, wi_eq, h7 j hk1 hk2]
    · rw [wi_j hj, wi_j hj, wi_q (show ¬ 86 = 68 by omega)]; exact h7 j hk1 hk2
  · rw [e _ _ (by omega), e _ _ (by omega)]; exact h8
  · rw [e _ _ (by omega)]; exact h10 i hi
/-- a call on both sides -/
def op_ (X : px_X) (D : pu_D) (kC : Nat) (vC : List Value) (kM : Nat) (vM : List Value) : Prop := pu_I X kC vC D (fun y1 D1 => pu_I X kM vM D1 (fun y2 D2 => y1 = y2 ∧ rel_ D2))
section RL
variable {X : px_X} {S : Nat → Nat → Nat → Nat} {D : pu_D}
theorem rg_if {x : Int32} {n : Nat} {P : Int32 → Prop} (h : P (nu_b (rg_ x n))) : if x < 0 then P 0 else if x < nu_i n then P 1 else P 0 := by
  by_cases h1 : x < 0
  · rw [if_pos h1]; rw [nu_bF (fun z => z.1 h1)] at h; exact h
  · rw [if_neg h1]
    by_cases h2 : x < nu_i n
    · rw [if_pos h2]; rw [nu_bT ⟨h1, h2⟩] at h; exact h
    · rw [if_neg h2]; rw [nu_bF (fun z => h2 z.2)] at h; exact h
theorem sp_138 {x : Int32} {P : Int32 → pu_D → Prop} : pu_I X 138 [.int x] D P = P (nu_b (rg_ x 8)) D := pu_I_of (pu_e138 (rg_if (n := 8) (P := fun y => y = nu_b (rg_ x 8) ∧ D = D) ⟨rfl, rfl⟩)) P
theorem sp_139 {x : Int32} {P : Int32 → pu_D → Prop} : pu_I X 139 [.int x] D P = P (nu_b (rg_ x 120)) D := pu_I_of (pu_e139 (rg_if (n := 120) (P := fun y => y = nu_b (rg_ x 120) ∧ D = D) ⟨rfl, rfl⟩)) P
theorem sp_140b {x : Int32} {P : Int32 → pu_D → Prop} : pu_I X 140 [.int x] D P = P (nu_b (rg_ x 12)) D := pu_I_of (pu_e140 (rg_if (n := 12) (P := fun y => y = nu_b (rg_ x 12) ∧ D = D) ⟨rfl, rfl⟩)) P
theorem sp_141 {x : Int32} {P : Int32 → pu_D → Prop} : pu_I X 141 [.int x] D P = P (nu_b (rg_ x 12)) D := pu_I_of (pu_e141 (rg_if (n := 12) (P := fun y => y = nu_b (rg_ x 12) ∧ D = D) ⟨rfl, rfl⟩)) P
theorem mp_151 {x : Int32} {P : Int32 → pu_D → Prop} : pu_I X 151 [.ref 85, .int x] D P = P (nu_b (rg_ x 8)) D := pu_I_of (pu_e151 (rg_if (n := 8) (P := fun y => y = nu_b (rg_ x 8) ∧ D = D) ⟨rfl, rfl⟩)) P
theorem mp_152 {x : Int32} {P : Int32 → pu_D → Prop} : pu_I X 152 [.ref 85, .int x] D P = P (nu_b (rg_ x 120)) D := pu_I_of (pu_e152 (rg_if (n := 120) (P := fun y => y = nu_b (rg_ x 120) ∧ D = D) ⟨rfl, rfl⟩)) P
theorem mp_156 {x : Int32} {P : Int32 → pu_D → Prop} : pu_I X 156 [.ref 85, .int x] D P = P (nu_b (rg_ x 12)) D := pu_I_of (pu_e156 (rg_if (n := 12) (P := fun y => y = nu_b (rg_ x 12) ∧ D = D) ⟨rfl, rfl⟩)) P
theorem mp_153 (h : re_M S D) {x : Int32} {P : Int32 → pu_D → Prop} : pu_I X 153 [.ref 85, .int x] D P = P (nu_b (rg_ x (S 8 0 0))) D := pu_I_of (pu_e153 (by rw [(rm_n h).1]; exact rg_if (P := fun y => y = nu_b (rg_ x (S 8 0 0)) ∧ D = D) ⟨rfl, rfl⟩)) P
theorem mp_154 (h : re_M S D) {x : Int32} {P : Int32 → pu_D → Prop} : pu_I X 154 [.ref 85, .int x] D P = P (nu_b (rg_ x (S 8 0 1))) D := pu_I_of (pu_e154 (by rw [(rm_n h).2.1]; exact rg_if (P := fun y => y = nu_b (rg_ x (S 8 0 1)) ∧ D = D) ⟨rfl, rfl⟩)) P
theorem mp_155 (h : re_M S D) (hW : wf_ S) {x : Int32} {P : Int32 → pu_D → Prop} : pu_I X 155 [.ref 85, .int x] D P = P (nu_b (rg_ x (2 ^ S 8 0 1))) D := pu_I_of (pu_e155 (by rw [(rm_n h).2.1, nu_sh (by have := wf_n hW; omega)]; exact rg_if (P := fun y => y = nu_b (rg_ x (2 ^ S 8 0 1)) ∧ D = D) ⟨rfl, rfl⟩)) P
theorem sp_51b (hC : re_C 1 S D) (hW : wf_ S) {x : Int32} {P : Int32 → pu_D → Prop} : pu_I X 51 [.ref 1, .int x] D P = P (nu_b (rg_ x (2 ^ S 8 0 1))) D := sp_51 hC hW
theorem sp_81 {q c : Nat} {x : Int32} {P : Int32 → pu_D → Prop} (hq : pu_cl q = 6) (hc : D.1 q 2 = nu_i c) : pu_I X 81 [.ref q, .int x] D P = P (nu_b (rg_ x c)) D := pu_I_of (pu_e81 hq (by rw [hc]; exact rg_if (P := fun y => y = nu_b (rg_ x c) ∧ D = D) ⟨rfl, rfl⟩)) P
theorem sp_81a (hC : re_C 1 S D) {x : Int32} {P : Int32 → pu_D → Prop} : pu_I X 81 [.ref 3, .int x] D P = P (nu_b (rg_ x (S 8 0 0))) D := sp_81 pu_c3 (re_n hC).1
theorem sp_81b (hC : re_C 1 S D) {x : Int32} {P : Int32 → pu_D → Prop} : pu_I X 81 [.ref 5, .int x] D P = P (nu_b (rg_ x (S 8 0 1))) D := sp_81 pu_c5 (re_n hC).2.1
theorem sp_81c (hC : re_C 1 S D) {x : Int32} {P : Int32 → pu_D → Prop} : pu_I X 81 [.ref 13, .int x] D P = P (nu_b (rg_ x (S 8 0 5))) D := sp_81 pu_c13 (re_n hC).2.2.2.2.2.1
theorem sp_130_1 {P : Int32 → pu_D → Prop} : pu_I X 130 [.ref 0, .int (-1)] D P = P (-1) (rf_ D 1) := by
  refine pu_I_of (pu_e130 ?_) P
  rw [if_neg (by decide), if_neg (by decide)]
  exact ⟨by decide, by decide, rfl, rfl⟩
theorem sp_131_1 {P : Int32 → pu_D → Prop} : pu_I X 131 [.ref 0, .int (-1)] D P = P (-11) (rf_ D 1) := by
  refine pu_I_of (pu_e131 ?_) P
  rw [sp_130_1]
  exact ⟨by decide, rfl⟩
theorem mp_149_1 {P : Int32 → pu_D → Prop} : pu_I X 149 [.ref 85, .int (-1)] D P = P (-1) (rn_ D 1) := by
  refine pu_I_of (pu_e149 ?_) P
  exact ⟨by decide, by decide, rfl, rfl⟩
theorem mp_150_1 {P : Int32 → pu_D → Prop} : pu_I X 150 [.ref 85, .int (-1)] D P = P (-11) (rn_ D 1) := by
  refine pu_I_of (pu_e150 ?_) P
  exact ⟨by decide, by decide, by decide, rfl⟩
theorem sp_130_2 {P : Int32 → pu_D → Prop} : pu_I X 130 [.ref 0, .int (-2)] D P = P (-2) (rf_ D 2) := by
  refine pu_I_of (pu_e130 ?_) P
  rw [if_neg (by decide), if_neg (by decide)]
  exact ⟨by decide, by decide, rfl, rfl⟩
theorem sp_131_2 {P : Int32 → pu_D → Prop} : pu_I X 131 [.ref 0, .int (-2)] D P = P (-12) (rf_ D 2) := by
  refine pu_I_of (pu_e131 ?_) P
  rw [sp_130_2]
  exact ⟨by decide, rfl⟩
theorem mp_149_2 {P : Int32 → pu_D → Prop} : pu_I X 149 [.ref 85, .int (-2)] D P = P (-2) (rn_ D 2) := by
  refine pu_I_of (pu_e149 ?_) P
  exact ⟨by decide, by decide, rfl, rfl⟩
theorem mp_150_2 {P : Int32 → pu_D → Prop} : pu_I X 150 [.ref 85, .int (-2)] D P = P (-12) (rn_ D 2) := by
  refine pu_I_of (pu_e150 ?_) P
  exact ⟨by decide, by decide, by decide, rfl⟩
theorem sp_130_3 {P : Int32 → pu_D → Prop} : pu_I X 130 [.ref 0, .int (-3)] D P = P (-3) (rf_ D 3) := by
  refine pu_I_of (pu_e130 ?_) P
  rw [if_neg (by decide), if_neg (by decide)]
  exact ⟨by decide, by decide, rfl, rfl⟩
theorem sp_131_3 {P : Int32 → pu_D → Prop} : pu_I X 131 [.ref 0, .int (-3)] D P = P (-13) (rf_ D 3) := by
  refine pu_I_of (pu_e131 ?_) P
  rw [sp_130_3]
  exact ⟨by decide, rfl⟩
theorem mp_149_3 {P : Int32 → pu_D → Prop} : pu_I X 149 [.ref 85, .int (-3)] D P = P (-3) (rn_ D 3) := by
  refine pu_I_of (pu_e149 ?_) P
  exact ⟨by decide, by decide, rfl, rfl⟩
theorem mp_150_3 {P : Int32 → pu_D → Prop} : pu_I X 150 [.ref 85, .int (-3)] D P = P (-13) (rn_ D 3) := by
  refine pu_I_of (pu_e150 ?_) P
  exact ⟨by decide, by decide, by decide, rfl⟩
theorem sp_130_4 {P : Int32 → pu_D → Prop} : pu_I X 130 [.ref 0, .int (-4)] D P = P (-4) (rf_ D 4) := by
  refine pu_I_of (pu_e130 ?_) P
  rw [if_neg (by decide), if_neg (by decide)]
  exact ⟨by decide, by decide, rfl, rfl⟩
theorem sp_131_4 {P : Int32 → pu_D → Prop} : pu_I X 131 [.ref 0, .int (-4)] D P = P (-14) (rf_ D 4) := by
  refine pu_I_of (pu_e131 ?_) P
  rw [sp_130_4]
  exact ⟨by decide, rfl⟩
theorem mp_149_4 {P : Int32 → pu_D → Prop} : pu_I X 149 [.ref 85, .int (-4)] D P = P (-4) (rn_ D 4) := by
  refine pu_I_of (pu_e149 ?_) P
  exact ⟨by decide, by decide, rfl, rfl⟩
theorem mp_150_4 {P : Int32 → pu_D → Prop} : pu_I X 150 [.ref 85, .int (-4)] D P = P (-14) (rn_ D 4) := by
  refine pu_I_of (pu_e150 ?_) P
  exact ⟨by decide, by decide, by decide, rfl⟩
theorem sp_130_5 {P : Int32 → pu_D → Prop} : pu_I X 130 [.ref 0, .int (-5)] D P = P (-5) (rf_ D 5) := by
  refine pu_I_of (pu_e130 ?_) P
  rw [if_neg (by decide), if_neg (by decide)]
  exact ⟨by decide, by decide, rfl, rfl⟩
theorem sp_131_5 {P : Int32 → pu_D → Prop} : pu_I X 131 [.ref 0, .int (-5)] D P = P (-15) (rf_ D 5) := by
  refine pu_I_of (pu_e131 ?_) P
  rw [sp_130_5]
  exact ⟨by decide, rfl⟩
theorem mp_149_5 {P : Int32 → pu_D → Prop} : pu_I X 149 [.ref 85, .int (-5)] D P = P (-5) (rn_ D 5) := by
  refine pu_I_of (pu_e149 ?_) P
  exact ⟨by decide, by decide, rfl, rfl⟩
theorem mp_150_5 {P : Int32 → pu_D → Prop} : pu_I X 150 [.ref 85, .int (-5)] D P = P (-15) (rn_ D 5) := by
  refine pu_I_of (pu_e150 ?_) P
  exact ⟨by decide, by decide, by decide, rfl⟩
theorem sp_130_6 {P : Int32 → pu_D → Prop} : pu_I X 130 [.ref 0, .int (-6)] D P = P (-6) (rf_ D 6) := by
  refine pu_I_of (pu_e130 ?_) P
  rw [if_neg (by decide), if_neg (by decide)]
  exact ⟨by decide, by decide, rfl, rfl⟩
theorem sp_131_6 {P : Int32 → pu_D → Prop} : pu_I X 131 [.ref 0, .int (-6)] D P = P (-16) (rf_ D 6) := by
  refine pu_I_of (pu_e131 ?_) P
  rw [sp_130_6]
  exact ⟨by decide, rfl⟩
theorem mp_149_6 {P : Int32 → pu_D → Prop} : pu_I X 149 [.ref 85, .int (-6)] D P = P (-6) (rn_ D 6) := by
  refine pu_I_of (pu_e149 ?_) P
  exact ⟨by decide, by decide, rfl, rfl⟩
theorem mp_150_6 {P : Int32 → pu_D → Prop} : pu_I X 150 [.ref 85, .int (-6)] D P = P (-16) (rn_ D 6) := by
  refine pu_I_of (pu_e150 ?_) P
  exact ⟨by decide, by decide, by decide, rfl⟩
theorem sp_130_7 {P : Int32 → pu_D → Prop} : pu_I X 130 [.ref 0, .int (-7)] D P = P (-7) (rf_ D 7) := by
  refine pu_I_of (pu_e130 ?_) P
  rw [if_neg (by decide), if_neg (by decide)]
  exact ⟨by decide, by decide, rfl, rfl⟩
theorem sp_131_7 {P : Int32 → pu_D → Prop} : pu_I X 131 [.ref 0, .int (-7)] D P = P (-17) (rf_ D 7) := by
  refine pu_I_of (pu_e131 ?_) P
  rw [sp_130_7]
  exact ⟨by decide, rfl⟩
theorem mp_149_7 {P : Int32 → pu_D → Prop} : pu_I X 149 [.ref 85, .int (-7)] D P = P (-7) (rn_ D 7) := by
  refine pu_I_of (pu_e149 ?_) P
  exact ⟨by decide, by decide, rfl, rfl⟩
theorem mp_150_7 {P : Int32 → pu_D → Prop} : pu_I X 150 [.ref 85, .int (-7)] D P = P (-17) (rn_ D 7) := by
  refine pu_I_of (pu_e150 ?_) P
  exact ⟨by decide, by decide, by decide, rfl⟩
theorem sv_B : (List.range 8).all (fun n => decide (pu_rf 49 n = 69 + 2 * n) && decide (pu_cl (69 + 2 * n) = 3) && decide (pu_rf (69 + 2 * n) 0 = 70 + 2 * n)) = true := by decide +kernel
theorem sv_ {n : Nat} (hn : n < 8) : pu_rf 49 n = 69 + 2 * n ∧ pu_cl (69 + 2 * n) = 3 ∧ pu_rf (69 + 2 * n) 0 = 70 + 2 * n := by
  have := List.all_eq_true.mp sv_B n (List.mem_range.mpr hn)
  simp only [Bool.and_eq_true, decide_eq_true_eq] at this
  exact ⟨this.1.1, this.1.2, this.2⟩
/-- what bars a row, a laying: the class's answers, the reference's -/
def ab_ (X : px_X) (D : pu_D) (x r l : Int32) : Prop := (∀ P, pu_I X 132 [.ref 0, .int x] D P = P r D) ∧ (∀ P, pu_I X 133 [.ref 0, .int x] D P = P l D) ∧ ∀ D1 : pu_D, (∀ j, D1.1 103 j = D.1 103 j) → (∀ P, pu_I X 166 [.ref 85, .int x, .int 1] D1 P = P r D1) ∧ ∀ P, pu_I X 166 [.ref 85, .int x, .int 2] D1 P = P l D1
theorem sh_cases (h : ∀ n, n < 8 → sf_ D n) (X : px_X) (x : Int32) : (¬ rg_ x 8 ∧ ab_ X D x (-1) (-1)) ∨ ∃ n, n < 8 ∧ x = nu_i n ∧ ((no_ D n ∧ ab_ X D x (-3) (-3)) ∨ (∃ so sz, ro_ D n so sz ∧ ab_ X D x 0 (-2)) ∨ ∃ k a w v, la_ D n k a w v ∧ ab_ X D x (-2) 0) := by
  by_cases hx : rg_ x 8
  · obtain ⟨n, hn, rfl⟩ := rg_e (by omega) hx
    obtain ⟨s1, s2, s3⟩ := sv_ hn
    refine Or.inr ⟨n, hn, rfl, ?_⟩
    have hb : ∀ (c : Prop) [Decidable c], (if nu_b c = 0 then False else True) = c := by
      intro c _
      by_cases hc : c <;> simp [nu_b, hc]
    have hin : px_in (nu_i n) 8 = true := by rw [nu_in (by omega)]; exact hn
    have hcl : ∀ (v : Int32) (r l : Int32), D.1 (69 + 2 * n) 1 = v → (if v < 100 then (if v < 0 then (-3 : Int32) else -2) else 0) = r → (if v < 100 then (if v < 0 then (-3 : Int32) else 0) else -2) = l → (∀ P, pu_I X 132 [.ref 0, .int (nu_i n)] D P = P r D) ∧ (∀ P, pu_I X 133 [.ref 0, .int (nu_i n)] D P = P l D) := by
      intro v r l hv hr hl
      refine ⟨fun P => pu_I_of (pu_e132 ?_) P, fun P => pu_I_of (pu_e133 ?_) P⟩
      · rw [sp_138, nu_bT hx, if_neg (by decide)]
        refine ⟨hin, ?_⟩
        rw [nu_ix (by omega), s1]
        refine pu_e33 s2 ?_
        rw [hv]
        by_cases h1 : v < 0
        · have h2 : v < 100 := Int32.lt_trans h1 (by decide)
          rw [if_pos h1]
          rw [if_pos h2, if_pos h1] at hr
          rw [if_pos rfl]
          refine ⟨hin, pu_e32 s2 ?_⟩
          rw [hv, if_pos h2, if_pos rfl]; exact ⟨hr, rfl⟩
        · rw [if_neg h1]
          by_cases h2 : v < 100
          · rw [if_pos h2]
            rw [if_pos h2, if_neg h1] at hr
            rw [if_neg (by decide)]; exact ⟨hr, rfl⟩
          · rw [if_neg h2]
            rw [if_neg h2] at hr
            rw [if_pos rfl]
            refine ⟨hin, pu_e32 s2 ?_⟩
            rw [hv, if_neg h2, if_neg (by decide)]; exact ⟨hr, rfl⟩
      · rw [sp_138, nu_bT hx, if_neg (by decide)]
        refine ⟨hin, ?_⟩
        rw [nu_ix (by omega), s1]
        refine pu_e32 s2 ?_
        rw [hv]
        by_cases h2 : v < 100
        · rw [if_pos h2, if_pos rfl]
          rw [if_pos h2] at hl
          refine ⟨hin, pu_e33 s2 ?_⟩
          rw [hv]
          by_cases h1 : v < 0
          · rw [if_pos h1, if_pos rfl]; rw [if_pos h1] at hl; exact ⟨hl, rfl⟩
          · rw [if_neg h1, if_pos h2, if_neg (by decide)]; rw [if_neg h1] at hl; exact ⟨hl, rfl⟩
        · rw [if_neg h2, if_neg (by decide)]
          rw [if_neg h2] at hl; exact ⟨hl, rfl⟩
    have hmo : ∀ (v r l : Int32), D.1 103 n = v → (if v = 3 - 1 then (-2 : Int32) else if v = 0 then -3 else 0) = r → (if v = 3 - 2 then (-2 : Int32) else if v = 0 then -3 else 0) = l → ∀ D1 : pu_D, (∀ j, D1.1 103 j = D.1 103 j) → (∀ P, pu_I X 166 [.ref 85, .int (nu_i n), .int 1] D1 P = P r D1) ∧ ∀ P, pu_I X 166 [.ref 85, .int (nu_i n), .int 2] D1 P = P l D1 := by
      intro v r l hv hr hl D1 hD1
      have key : ∀ (u o : Int32), (if v = 3 - u then (-2 : Int32) else if v = 0 then -3 else 0) = o → ∀ P, pu_I X 166 [.ref 85, .int (nu_i n), .int u] D1 P = P o D1 := by
        intro u o ho P
        refine pu_I_of (pu_e166 ?_) P
        rw [mp_151, nu_bT hx, if_neg (by decide)]
        refine ⟨hin, ?_⟩
        rw [nu_ix (by omega), hD1, hv]
        by_cases h1 : v = 3 - u
        · rw [if_pos h1]; rw [if_pos h1] at ho; exact ⟨ho, rfl⟩
        · rw [if_neg h1]; rw [if_neg h1] at ho
          refine ⟨hin, ?_⟩
          by_cases h2 : v = 0
          · rw [if_pos h2]; rw [if_pos h2] at ho; exact ⟨ho, rfl⟩
          · rw [if_neg h2]; rw [if_neg h2] at ho; exact ⟨ho, rfl⟩
      exact ⟨key 1 r hr, key 2 l hl⟩
    rcases h n hn with h0 | ⟨so, sz, h0⟩ | ⟨k, a, w, v, h0⟩
    · exact Or.inl ⟨h0, (hcl _ (-3) (-3) h0.2 (by decide) (by decide)).1, (hcl _ (-3) (-3) h0.2 (by decide) (by decide)).2, hmo _ (-3) (-3) h0.1 (by decide) (by decide)⟩
    · have h3 := h0.2.2.1
      have h5 := h0.2.2.2.2.1
      have hso := h0.1
      have e1 : ¬ nu_i (100 + so) < 100 := by rw [nu_ltn (by omega) (by omega)]; show ¬ 100 + so < 100; omega
      exact Or.inr (Or.inl ⟨so, sz, h0, (hcl _ 0 (-2) h5 (if_neg e1) (if_neg e1)).1, (hcl _ 0 (-2) h5 (if_neg e1) (if_neg e1)).2, hmo _ 0 (-2) h3 (by decide) (by decide)⟩)
    · have h1 := h0.1.1
      have hk := h0.1.2.2.2.1
      have e1 : nu_i k < 100 := by rw [nu_ltn (by omega) (by omega)]; show k < 100; omega
      have e2 : ¬ nu_i k < 0 := by rw [nu_lt0 (by omega)]; exact fun z => z
      exact Or.inr (Or.inr ⟨k, a, w, v, h0, (hcl _ (-2) 0 h1 (by rw [if_pos e1, if_neg e2]) (by rw [if_pos e1, if_neg e2])).1, (hcl _ (-2) 0 h1 (by rw [if_pos e1, if_neg e2]) (by rw [if_pos e1, if_neg e2])).2, hmo _ (-2) 0 h0.2.2.2.1 (by decide) (by decide)⟩)
  · refine Or.inl ⟨hx, fun P => pu_I_of (pu_e132 ?_) P, fun P => pu_I_of (pu_e133 ?_) P, fun D1 _ => ⟨fun P => pu_I_of (pu_e166 ?_) P, fun P => pu_I_of (pu_e166 ?_) P⟩⟩
    · rw [sp_138, nu_bF hx, if_pos rfl]; exact ⟨rfl, rfl⟩
    · rw [sp_138, nu_bF hx, if_pos rfl]; exact ⟨rfl, rfl⟩
    · rw [mp_151, nu_bF hx, if_pos rfl]; exact ⟨rfl, rfl⟩
    · rw [mp_151, nu_bF hx, if_pos rfl]; exact ⟨rfl, rfl⟩
end RL
