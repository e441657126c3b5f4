/-! ACTS: costs; act and trace on both sides. -/
section ST
variable {X : px_X} {S : Nat → Nat → Nat → Nat} {D : pu_D}
def b7_ (k : Nat) : List Nat := (if k = 4 then [50] else if k = 6 then [71] else []) ++ [12] ++ b6_ k ++ b5_ k
def v7_ (k n a : Nat) (x : Int32) : Int32 := if k = 6 then v6_ k n a (x - nu_i a) ^^^ v5_ k n a (x - nu_i a - nu_i a) else if k = 4 then -(v6_ k n a x ^^^ v5_ k n a (x - nu_i a)) else v6_ k n a x ^^^ v5_ k n a (x - nu_i a)
theorem L1_ (l : List Nat) (b : Nat) : (l ++ [b]).length = l.length + 1 := by rw [List.length_append]; rfl
theorem sp_7 {D0 D1 : pu_D} {l : List Nat} {k n a : Nat} {x : Int32} {P : Int32 → pu_D → Prop} (hk : k < 7) (hk0 : D0.1 66 2 = nu_i k) (hn0 : D0.1 66 3 = nu_i n) (ha0 : D0.1 66 4 = nu_i a) (h : tk_ D0 l D1) (hl : l.length < 8) (hP : ∀ D', tk_ D0 (l ++ b7_ k) D' → P (v7_ k n a x) D') : pu_I X 7 [.ref 66, .int x] D1 P := by
  have e2 : ∀ {l D}, tk_ D0 l D → D.1 66 2 = nu_i k := fun h => (h.2.2.1 _ _ (by omega)).trans hk0
  have e4 : ∀ {l D}, tk_ D0 l D → D.1 66 4 = nu_i a := fun h => (h.2.2.1 _ _ (by omega)).trans ha0
  have h6l := b6_l (k := k)
  -- the tail without 71
  have last : ∀ (l2 : List Nat) (D2 : pu_D), ¬ k = 6 → tk_ D0 l2 D2 → l2.length < 10 → l2 ++ [12] ++ b6_ k ++ b5_ k = l ++ b7_ k → pu_h7_29 X x D2 P := by
    intro l2 D2 k6 h2 hl2 he
    refine pu_u7_29 ?_
    rw [e2 h2, if_neg (show ¬ nu_i k = (6 : Int32) by rw [nu_eqn (by omega) (by omega)]; exact k6)]
    refine sp_4 (b := 12) h2 (by omega) fun D3 h3 => ?_
    refine sp_6 hk hk0 hn0 ha0 h3 (by rw [L1_]; omega) fun D4 h4 => ?_
    rw [e4 h4]
    refine sp_5 hk hk0 hn0 ha0 h4 (by rw [List.length_append, L1_]; omega) fun D5 h5 => ?_
    rw [e2 h5]
    rw [he] at h5
    have hp := hP D5 h5
    unfold v7_ at hp
    rw [if_neg k6] at hp
    by_cases k4 : k = 4
    · rw [if_pos (show nu_i k = (4 : Int32) by rw [k4]; rfl)]; rw [if_pos k4] at hp; exact hp
    · rw [if_neg (show ¬ nu_i k = (4 : Int32) by rw [nu_eqn (by omega) (by omega)]; exact k4)]; rw [if_neg k4] at hp; exact hp
  refine pu_e7 ?_
  rw [e2 h]
  by_cases k4 : k = 4
  · subst k4
    rw [if_pos (by decide)]
    refine sp_4 (b := 50) h (by omega) fun D2 h2 => ?_
    refine pu_u7_14 ?_
    rw [e2 h2, if_neg (by decide)]
    refine last _ D2 (by omega) h2 (by rw [L1_]; omega) ?_
    rw [List.append_assoc, List.append_assoc, List.append_assoc]; rfl
  · rw [if_neg (show ¬ nu_i k = (4 : Int32) by rw [nu_eqn (by omega) (by omega)]; exact k4)]
    refine pu_u7_14 ?_
    rw [e2 h]
    by_cases k6 : k = 6
    · subst k6
      rw [if_pos (by decide)]
      refine sp_4 (b := 71) h (by omega) fun D2 h2 => ?_
      refine pu_u7_29 ?_
      rw [e2 h2, if_pos (by decide), e4 h2]
      refine sp_4 (b := 12) h2 (by rw [L1_]; omega) fun D3 h3 => ?_
      refine sp_6 hk hk0 hn0 ha0 h3 (by rw [L1_, L1_]; omega) fun D4 h4 => ?_
      rw [e4 h4]
      refine sp_5 hk hk0 hn0 ha0 h4 (by rw [List.length_append, L1_, L1_]; omega) fun D5 h5 => ?_
      rw [e2 h5, if_neg (by decide)]
      refine hP D5 ?_
      have : l ++ [71] ++ [12] ++ b6_ 6 ++ b5_ 6 = l ++ b7_ 6 := by rw [List.append_assoc, List.append_assoc, List.append_assoc]; rfl
      rw [← this]; exact h5
    · rw [if_neg (show ¬ nu_i k = (6 : Int32) by rw [nu_eqn (by omega) (by omega)]; exact k6)]
      refine last l D1 k6 h (by omega) ?_
      unfold b7_
      rw [if_neg k4, if_neg k6, List.append_assoc, List.append_assoc, List.append_assoc, List.append_assoc]; rfl
theorem mp_239 {D0 D1 : pu_D} {l : List Nat} {k n a : Nat} {x : Int32} {P : Int32 → pu_D → Prop} (hn : n < 8) (hk : k < 7) (hk0 : D0.1 106 n = nu_i k) (ha0 : D0.1 107 n = nu_i a) (h : tx_ D0 l D1) (hl : l.length < 8) (hP : ∀ D', tx_ D0 (l ++ b7_ k) D' → P (v7_ k n a x) D') : pu_I X 239 [.ref 85, .int (nu_i n), .int x] D1 P := by
  have e2 : ∀ {l D}, tx_ D0 l D → D.1 106 n = nu_i k := fun h => (h.2.2.1 _ _ (by omega)).trans hk0
  have e4 : ∀ {l D}, tx_ D0 l D → D.1 107 n = nu_i a := fun h => (h.2.2.1 _ _ (by omega)).trans ha0
  have h6l := b6_l (k := k)
  have i1 : (px_in (nu_i n) 8 = true) := by rw [nu_in (by omega)]; exact hn
  refine pu_e239 ?_
  rw [nu_ix (by omega), e2 h]
  refine ⟨i1, ?_⟩
  by_cases k4 : k = 4
  · subst k4
    rw [if_pos (by decide)]
    refine mp_236 (b := 50) h (by omega) fun D2 h2 => ?_
    rw [if_neg (by decide)]
    refine mp_236 (b := 12) h2 (by rw [L1_]; omega) fun D3 h3 => ?_
    refine mp_238 hn hk hk0 ha0 h3 (by rw [L1_, L1_]; omega) fun D4 h4 => ?_
    rw [e4 h4]
    refine ⟨i1, mp_237 hn hk hk0 ha0 h4 (by rw [List.length_append, L1_, L1_]; omega) fun D5 h5 => ?_⟩
    rw [if_pos (by decide)]
    refine hP D5 ?_
    have : l ++ [50] ++ [12] ++ b6_ 4 ++ b5_ 4 = l ++ b7_ 4 := by rw [List.append_assoc, List.append_assoc, List.append_assoc]; rfl
    rw [← this]; exact h5
  · rw [if_neg (show ¬ nu_i k = (4 : Int32) by rw [nu_eqn (by omega) (by omega)]; exact k4)]
    by_cases k6 : k = 6
    · subst k6
      rw [if_pos (by decide)]
      refine mp_236 (b := 71) h (by omega) fun D2 h2 => ?_
      rw [e4 h2]
      refine ⟨i1, mp_236 (b := 12) h2 (by rw [L1_]; omega) fun D3 h3 => ?_⟩
      refine mp_238 hn hk hk0 ha0 h3 (by rw [L1_, L1_]; omega) fun D4 h4 => ?_
      rw [e4 h4]
      refine ⟨i1, mp_237 hn hk hk0 ha0 h4 (by rw [List.length_append, L1_, L1_]; omega) fun D5 h5 => ?_⟩
      rw [if_neg (by decide)]
      refine hP D5 ?_
      have : l ++ [71] ++ [12] ++ b6_ 6 ++ b5_ 6 = l ++ b7_ 6 := by rw [List.append_assoc, List.append_assoc, List.append_assoc]; rfl
      rw [← this]; exact h5
    · rw [if_neg (show ¬ nu_i k = (6 : Int32) by rw [nu_eqn (by omega) (by omega)]; exact k6)]
      refine mp_236 (b := 12) h (by omega) fun D3 h3 => ?_
      refine mp_238 hn hk hk0 ha0 h3 (by rw [L1_]; omega) fun D4 h4 => ?_
      rw [e4 h4]
      refine ⟨i1, mp_237 hn hk hk0 ha0 h4 (by rw [List.length_append, L1_]; omega) fun D5 h5 => ?_⟩
      rw [if_neg (show ¬ nu_i k = (4 : Int32) by rw [nu_eqn (by omega) (by omega)]; exact k4)]
      have he : l ++ [12] ++ b6_ k ++ b5_ k = l ++ b7_ k := by
        unfold b7_
        rw [if_neg k4, if_neg k6, List.append_assoc, List.append_assoc, List.append_assoc, List.append_assoc]; rfl
      rw [he] at h5
      have hp := hP D5 h5
      unfold v7_ at hp
      rw [if_neg k6, if_neg k4] at hp; exact hp
/-- another trace on both sides -/
def zt_ (q j : Nat) : Prop := (q = 66 ∧ 1 ≤ j) ∨ q = 67 ∨ (q = 85 ∧ j = 49) ∨ q = 116
theorem rx_tr {D' : pu_D} (h : rx_ S D) (a : ag_ zt_ D D') (ht : tr_ D') : rx_ S D' := by
  obtain ⟨h1, h2, h3, h4, h5, h6, h7, h8, h9, h10⟩ := h
  have e : ∀ q j, ¬ zt_ q j → D'.1 q j = D.1 q j := a.1
  refine ⟨h1, re_Cag h2 a (fun q j x y z => by unfold zt_ at z; omega), rm_ag h3 a (fun q j z => by unfold zt_ at z; omega), fun b hb t ht => ?_, kp_ag h5 a (fun q j z => by unfold zt_ at z; omega), fun n hn => sf_ag hn (h6 n hn) a (fun q j z => by unfold zt_ at z; omega), fun k hk1 hk2 => ?_, ?_, ht, fun i hi => ?_⟩
  · rw [e _ _ (by unfold zt_; omega)]; exact h4 b hb t ht
  · rw [e _ _ (by unfold zt_; omega), e _ _ (by unfold zt_; omega)]; exact h7 k hk1 hk2
  · rw [e _ _ (by unfold zt_; omega), e _ _ (by unfold zt_; omega)]; exact h8
  · rw [e _ _ (by unfold zt_; omega)]; exact h10 i hi
theorem tr_tk {D0 D1 D2 E : pu_D} {l : List Nat} (hr : rx_ S D) (ha : ag_ zt_ D D0) (h1 : tk_ D0 l D1) (hE : ag_ (fun q j => q = 85 ∧ j = 49) D1 E) (h2 : tx_ E l D2) (hl : l.length ≤ 20) : rel_ D2 := by
  have a : ag_ zt_ D D2 := ag_tr (ag_tr (ag_tr ha (ag_mo h1.2.2 fun q j z => by unfold zt_; omega)) (ag_mo hE fun q j z => by unfold zt_; omega)) (ag_mo h2.2.2 fun q j z => by unfold zt_; omega)
  refine ⟨S, rx_tr hr a ⟨l.length, hl, ?_, h2.1, fun i hi => ?_⟩⟩
  · rw [h2.2.2.1 _ _ (by omega), hE.1 _ _ (by omega)]; exact h1.1
  · rw [h2.2.2.1 _ _ (by omega), hE.1 _ _ (by omega), h1.2.1 i hi]; exact (h2.2.1 i hi).symm
theorem oq_126 (h : rel_ D) {x1 : Int32} : op_ X D 126 [.ref 0, .int x1] 241 [.ref 85, .int x1] := by
  obtain ⟨S, hr⟩ := h
  obtain ⟨-, -, -, -, -, -, -, -, ⟨r, r1, r2, r3, r4⟩, -⟩ := id hr
  refine pu_e126 (pu_e3 ?_)
  rw [r2]
  have m : ∀ y : Int32, (if x1 < 0 then -1 = y else if x1 < nu_i r then ∀ i, i < r → x1 = nu_i i → D.1 116 i = y else -1 = y) → pu_I X 241 [.ref 85, .int x1] D (fun y2 D2 => y = y2 ∧ rel_ D2) := by
    intro y hy
    refine pu_e241 ?_
    rw [r3]
    by_cases h1 : x1 < 0
    · rw [if_pos h1] at hy ⊢; exact ⟨hy.symm, S, hr⟩
    rw [if_neg h1] at hy ⊢
    by_cases h2 : x1 < nu_i r
    · rw [if_pos h2] at hy ⊢
      obtain ⟨i, hi, rfl⟩ := rg_e (by omega) ⟨h1, h2⟩
      rw [if_pos (show nu_i i < (20 : Int32) from nu_ltp (b := 20) (by omega) (by omega)), nu_in (by omega), nu_ix (by omega)]
      exact ⟨by omega, (hy i hi rfl).symm, S, hr⟩
    · rw [if_neg h2] at hy ⊢
      by_cases h3 : x1 < 20
      · rw [if_pos h3]; exact ⟨hy.symm, S, hr⟩
      · rw [if_neg h3]; exact ⟨hy.symm, S, hr⟩
  by_cases h1 : x1 < 0
  · rw [if_pos h1]; refine m _ ?_; rw [if_pos h1]
  rw [if_neg h1]
  by_cases h2 : x1 < nu_i r
  · rw [if_pos h2]
    obtain ⟨i, hi, rfl⟩ := rg_e (by omega) ⟨h1, h2⟩
    rw [if_pos (show nu_i i < (20 : Int32) from nu_ltp (b := 20) (by omega) (by omega)), nu_in (by omega), nu_ix (by omega)]
    refine ⟨by omega, m _ ?_⟩
    rw [if_neg h1, if_pos h2]
    intro i' hi' he
    rw [nu_eq (by omega) (by omega)] at he
    subst he
    exact (r4 i hi).symm
  · rw [if_neg h2]; refine m _ ?_; rw [if_neg h1, if_neg h2]
theorem oq_125 (h : rel_ D) {x1 x2 x3 : Int32} : op_ X D 125 [.ref 0, .int x1, .int x2, .int x3] 240 [.ref 85, .int x1, .int x2, .int x3] := by
  obtain ⟨S, hr⟩ := h
  obtain ⟨-, -, -, -, -, hS, -⟩ := id hr
  refine pu_e125 (pu_e1 ?_)
  rw [sp_138]
  have a1 : ag_ (fun q j => q = 66 ∧ j = 1) D (pu_wi D 66 1 0) := ag_wi (ag_rf D) ⟨rfl, rfl⟩
  -- nothing begun
  have none : ∀ {D1 : pu_D}, ag_ (fun q j => q = 66 ∧ 1 ≤ j) D D1 → D1.1 66 1 = 0 → rel_ (pu_wi D1 85 49 0) := by
    intro D1 a e
    refine ⟨S, rx_tr hr (ag_wi (ag_mo a fun q j z => ?_) ?_) ⟨0, by omega, ?_, wi_eq, fun i hi => by omega⟩⟩
    · unfold zt_; omega
    · unfold zt_; omega
    · rw [wi_q (by omega)]; exact e
  by_cases c1 : rg_ x1 8
  · rw [nu_bT c1, if_neg (by decide)]
    obtain ⟨n, hn, rfl⟩ := rg_e (by omega) c1
    obtain ⟨s1, s2, s3⟩ := sv_ hn
    have i1 : (px_in (nu_i n) 8 = true) := by rw [nu_in (by omega)]; exact hn
    rw [nu_ix (by omega), s1]
    refine ⟨i1, ?_⟩
    have zsh : ∀ q j, (q = 66 ∧ j = 1) → ¬ (69 ≤ q ∧ q ≤ 84) ∧ ¬ (103 ≤ q ∧ q ≤ 108) := fun q j z => by omega
    have p0 : ∀ v : Int32, (pu_wi D 66 1 0).1 103 n = v → ¬ v = 2 → pu_I X 240 [.ref 85, .int (nu_i n), .int x2, .int x3] (pu_wi D 66 1 0) (fun y2 D2 => 0 = y2 ∧ rel_ D2) := by
      intro v hv hne
      refine pu_e240 ?_
      rw [mp_151, nu_bT c1, if_neg (by decide), nu_ix (by omega), wi_q (by omega), hv, if_neg hne]
      exact ⟨i1, rfl, none (ag_mo a1 fun q j z => by omega) wi_eq⟩
    rcases hS n hn with h | ⟨so, sz, h⟩ | ⟨k, a, w, v, h⟩
    · have h := no_ag hn h a1 zsh
      rw [(sh_no hn h).2, if_pos rfl]; exact p0 _ h.1 (by decide)
    · have h := ro_ag hn h a1 zsh
      rw [(sh_ro hn h).2, if_pos rfl]; exact p0 _ h.2.2.1 (by decide)
    · have h := la_ag hn h a1 zsh
      rw [(sh_la hn h).2, if_neg (by decide)]
      obtain ⟨⟨l1, l3, l4, hk, ha, hw, ha2⟩, g2, g3, g4, g5, g6, g7⟩ := id h
      rw [l1, l3]
      refine ⟨i1, i1, pu_e2 ?_⟩
      generalize hD0 : pu_wi (pu_wi (pu_wi (pu_wi D 66 1 0) 66 2 (nu_i k)) 66 3 (nu_i n)) 66 4 (nu_i a) = D0
      have a2 : ag_ (fun q j => q = 66 ∧ 2 ≤ j) (pu_wi D 66 1 0) D0 := by
        rw [← hD0]
        exact ag_wi (ag_wi (ag_wi (ag_rf _) ⟨rfl, by omega⟩) ⟨rfl, by omega⟩) ⟨rfl, by omega⟩
      have a3 : ag_ (fun q j => q = 66 ∧ 1 ≤ j) D D0 := ag_tr (ag_mo a1 fun q j z => by omega) (ag_mo a2 fun q j z => by omega)
      have a4 : ag_ zt_ D D0 := ag_mo a3 fun q j z => by unfold zt_; omega
      have f1 : D0.1 66 1 = 0 := by rw [a2.1 _ _ (by omega)]; exact wi_eq
      have f2 : D0.1 66 2 = nu_i k := by rw [← hD0, wi_j (by omega), wi_j (by omega), wi_eq]
      have f3 : D0.1 66 3 = nu_i n := by rw [← hD0, wi_j (by omega), wi_eq]
      have f4 : D0.1 66 4 = nu_i a := by rw [← hD0, wi_eq]
      have t0 : tk_ D0 [] D0 := ⟨f1, fun i hi => absurd hi (Nat.not_lt_zero _), ag_rf _⟩
      have e103 : ∀ {l D1}, tk_ D0 l D1 → ∀ q, 103 ≤ q → q ≤ 107 → D1.1 q n = (pu_wi D 66 1 0).1 q n := fun h q z1 z2 => by rw [h.2.2.1 _ _ (by omega), a2.1 _ _ (by omega)]
      -- the reference past its head
      have m : ∀ {Q : Int32 → pu_D → Prop} {l D1}, tk_ D0 l D1 → (if x2 < 0 then Q 0 (pu_wi D1 85 49 0) else if 2 < x2 then Q 0 (pu_wi D1 85 49 0) else if x2 = 0 then pu_I X 237 [.ref 85, .int (nu_i n), .int x3] (pu_wi D1 85 49 0) Q else if x2 = 1 then pu_I X 238 [.ref 85, .int (nu_i n), .int x3] (pu_wi D1 85 49 0) Q else pu_I X 239 [.ref 85, .int (nu_i n), .int x3] (pu_wi D1 85 49 0) Q) → pu_I X 240 [.ref 85, .int (nu_i n), .int x2, .int x3] D1 Q := by
        intro Q l D1 h1 hq
        refine pu_e240 ?_
        rw [mp_151, nu_bT c1, if_neg (by decide), nu_ix (by omega), wi_q (show ¬ 103 = 85 by omega), e103 h1 103 (by omega) (by omega), g4, if_pos rfl]
        exact ⟨i1, hq⟩
      have E : ∀ {l D1}, tk_ D0 l D1 → tx_ (pu_wi D1 85 49 0) [] (pu_wi D1 85 49 0) ∧ ag_ (fun q j => q = 85 ∧ j = 49) D1 (pu_wi D1 85 49 0) ∧ (pu_wi D1 85 49 0).1 106 n = nu_i k ∧ (pu_wi D1 85 49 0).1 107 n = nu_i a := by
        intro l D1 h1
        refine ⟨⟨wi_eq, fun i hi => absurd hi (Nat.not_lt_zero _), ag_rf _⟩, ag_wi (ag_rf _) ⟨rfl, rfl⟩, ?_, ?_⟩
        · rw [wi_q (by omega), e103 h1 106 (by omega) (by omega)]; exact g5
        · rw [wi_q (by omega), e103 h1 107 (by omega) (by omega)]; exact g6
      have h5l := b5_l (k := k)
      have h6l := b6_l (k := k)
      by_cases y0 : x2 = 0
      · rw [if_pos y0]
        refine sp_5 hk f2 f3 f4 t0 (show 0 < 18 by omega) fun D1 h1 => ?_
        rw [List.nil_append] at h1
        refine m h1 ?_
        subst y0
        rw [if_neg (by decide), if_neg (by decide), if_pos rfl]
        obtain ⟨E1, E2, E3, E4⟩ := E h1
        refine mp_237 hn hk E3 E4 E1 (show 0 < 18 by omega) fun D2 h2 => ⟨rfl, tr_tk hr a4 h1 E2 h2 (by omega)⟩
      rw [if_neg y0]
      by_cases y1 : x2 = 1
      · rw [if_pos y1]
        refine sp_6 hk f2 f3 f4 t0 (show 0 < 14 by omega) fun D1 h1 => ?_
        rw [List.nil_append] at h1
        refine m h1 ?_
        subst y1
        rw [if_neg (by decide), if_neg (by decide), if_neg (by decide), if_pos rfl]
        obtain ⟨E1, E2, E3, E4⟩ := E h1
        refine mp_238 hn hk E3 E4 E1 (show 0 < 14 by omega) fun D2 h2 => ⟨rfl, tr_tk hr a4 h1 E2 h2 (by omega)⟩
      rw [if_neg y1]
      by_cases y2 : x2 = 2
      · rw [if_pos y2]
        refine sp_7 hk f2 f3 f4 t0 (show 0 < 8 by omega) fun D1 h1 => ?_
        rw [List.nil_append] at h1
        refine m h1 ?_
        subst y2
        rw [if_neg (by decide), if_neg (by decide), if_neg (by decide), if_neg (by decide)]
        obtain ⟨E1, E2, E3, E4⟩ := E h1
        refine mp_239 hn hk E3 E4 E1 (show 0 < 8 by omega) fun D2 h2 => ⟨rfl, tr_tk hr a4 h1 E2 h2 ?_⟩
        have hb : (b7_ k).length ≤ 9 := by
          unfold b7_
          rw [List.length_append, List.length_append, List.length_append]
          have h1 : ([12] : List Nat).length = 1 := rfl
          have h2 : (if k = 4 then [50] else if k = 6 then [71] else [] : List Nat).length ≤ 1 := by
            split
            · decide
            · split <;> decide
          omega
        exact Nat.le_trans hb (by omega)
      · rw [if_neg y2]
        refine m t0 ?_
        have fin : rel_ (pu_wi D0 85 49 0) := none a3 f1
        by_cases z1 : x2 < 0
        · rw [if_pos z1]; exact ⟨rfl, fin⟩
        rw [if_neg z1]
        by_cases z2 : 2 < x2
        · rw [if_pos z2]; exact ⟨rfl, fin⟩
        · obtain ⟨b, -, hb, rfl⟩ := rb_e (lo := 0) (hi := 2) (by omega) (by omega) ⟨z1, z2⟩
          rcases (show b = 0 ∨ b = 1 ∨ b = 2 by omega) with rfl | rfl | rfl
          · exact absurd rfl y0
          · exact absurd rfl y1
          · exact absurd rfl y2
  · rw [nu_bF c1, if_pos rfl]
    refine pu_e240 ?_
    rw [mp_151, nu_bF c1, if_pos rfl]
    exact ⟨rfl, none (ag_mo a1 fun q j z => by omega) wi_eq⟩
end ST
