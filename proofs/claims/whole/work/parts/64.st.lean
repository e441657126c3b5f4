/-! THE IMAGE on both sides. -/
section ST
variable {X : px_X} {S : Nat → Nat → Nat → Nat} {D : pu_D}
def ms_ (D : pu_D) : Nat → pu_D
  | 0 => D
  | c + 1 => iw_ (ms_ D c) 112 (oc_ c) (fun i => (ms_ D c).1 (87 + c) i) (lc_ c)
def mr_ (D : pu_D) : Nat → pu_D
  | 0 => D
  | c + 1 => iw_ (mr_ D c) (87 + c) 0 (fun i => (mr_ D c).1 112 (oc_ c + i)) (lc_ c)
theorem ms_i : ∀ n, n ≤ 16 → ag_ (fun q _ => q = 112) D (ms_ D n) ∧ ∀ c, c < n → ∀ i, i < lc_ c → (ms_ D n).1 112 (oc_ c + i) = D.1 (87 + c) i
  | 0, _ => ⟨ag_rf D, fun c hc => absurd hc (Nat.not_lt_zero _)⟩
  | n + 1, hn => by
    obtain ⟨h1, h2⟩ := ms_i n (by omega)
    refine ⟨⟨fun q j z => ?_, ?_⟩, fun c hc i hi => ?_⟩
    · rw [ms_, iw_1, if_neg (fun y => z y.1)]; exact h1.1 q j z
    · rw [ms_, iw_2]; exact h1.2
    · rw [ms_, iw_1]
      by_cases e : c = n
      · subst e
        rw [if_pos ⟨rfl, by omega, by omega⟩, Nat.add_sub_cancel_left]
        exact h1.1 _ _ (by omega)
      · have hlt := (oc_h (show c < 16 by omega)).2.2.2.2 n (by omega) (by omega)
        rw [if_neg (by omega)]; exact h2 c (by omega) i hi
theorem mr_i : ∀ n, n ≤ 16 → ag_ (fun q _ => 87 ≤ q ∧ q < 87 + n) D (mr_ D n) ∧ ∀ c, c < n → ∀ i, i < lc_ c → (mr_ D n).1 (87 + c) i = D.1 112 (oc_ c + i)
  | 0, _ => ⟨ag_rf D, fun c hc => absurd hc (Nat.not_lt_zero _)⟩
  | n + 1, hn => by
    obtain ⟨h1, h2⟩ := mr_i n (by omega)
    refine ⟨⟨fun q j z => ?_, ?_⟩, fun c hc i hi => ?_⟩
    · rw [mr_, iw_1, if_neg (fun y => z ⟨by omega, by omega⟩)]; exact h1.1 q j (fun y => z ⟨by omega, by omega⟩)
    · rw [mr_, iw_2]; exact h1.2
    · rw [mr_, iw_1]
      by_cases e : c = n
      · subst e
        rw [if_pos ⟨rfl, by omega, by omega⟩, Nat.sub_zero]
        exact h1.1 _ _ (by omega)
      · rw [if_neg (by omega)]; exact h2 c (by omega) i hi
set_option maxRecDepth 10000 in
theorem mp_191s {P : pu_D → Prop} (hP : ∀ D', ag_ (fun q _ => q = 117) D D' → (∀ j, j < 11 → D'.1 117 j = D.1 85 j) → P D') : pu_V X 191 [.ref 85, .ref 117, .int 0] D P := by
  refine pu_e191 (by decide) ?_
  rw [if_pos rfl]
  refine ⟨by decide, by decide, by decide, by decide, by decide, by decide, by decide, by decide, by decide, by decide, by decide, hP _ ?_ fun j hj => ?_⟩
  · exact ag_wi (ag_wi (ag_wi (ag_wi (ag_wi (ag_wi (ag_wi (ag_wi (ag_wi (ag_wi (ag_wi (ag_rf D) rfl) rfl) rfl) rfl) rfl) rfl) rfl) rfl) rfl) rfl) rfl
  · rcases (show j = 0 ∨ j = 1 ∨ j = 2 ∨ j = 3 ∨ j = 4 ∨ j = 5 ∨ j = 6 ∨ j = 7 ∨ j = 8 ∨ j = 9 ∨ j = 10 by omega) with rfl | rfl | rfl | rfl | rfl | rfl | rfl | rfl | rfl | rfl | rfl <;> rfl
set_option maxRecDepth 10000 in
theorem mp_191r {P : pu_D → Prop} (hP : ∀ D', ag_ (fun q j => q = 85 ∧ j ≤ 10) D D' → (∀ j, j < 11 → D'.1 85 j = D.1 117 j) → P D') : pu_V X 191 [.ref 85, .ref 117, .int 1] D P := by
  refine pu_e191 (by decide) ?_
  rw [if_neg (by decide)]
  refine ⟨by decide, by decide, by decide, by decide, by decide, by decide, by decide, by decide, by decide, by decide, by decide, hP _ ?_ fun j hj => ?_⟩
  · exact ag_wi (ag_wi (ag_wi (ag_wi (ag_wi (ag_wi (ag_wi (ag_wi (ag_wi (ag_wi (ag_wi (ag_rf D) ⟨rfl, by decide⟩) ⟨rfl, by decide⟩) ⟨rfl, by decide⟩) ⟨rfl, by decide⟩) ⟨rfl, by decide⟩) ⟨rfl, by decide⟩) ⟨rfl, by decide⟩) ⟨rfl, by decide⟩) ⟨rfl, by decide⟩) ⟨rfl, by decide⟩) ⟨rfl, by decide⟩
  · rcases (show j = 0 ∨ j = 1 ∨ j = 2 ∨ j = 3 ∨ j = 4 ∨ j = 5 ∨ j = 6 ∨ j = 7 ∨ j = 8 ∨ j = 9 ∨ j = 10 by omega) with rfl | rfl | rfl | rfl | rfl | rfl | rfl | rfl | rfl | rfl | rfl <;> rfl
theorem mp_243s {P : pu_D → Prop} (h : pu_V X 191 [.ref 85, .ref 117, .int 0] (ms_ D 16) P) : pu_V X 243 [.ref 85, .int 0] D P := by
  refine pu_e243 ?_
  have s := fun (c : Nat) (hc : c < 16) (E : pu_D) Q => mp_242s (X := X) (D := E) (P := Q) hc
  refine (s 0 (by omega) (ms_ D 0) _).mpr ?_
  refine (s 1 (by omega) (ms_ D 1) _).mpr ?_
  refine (s 2 (by omega) (ms_ D 2) _).mpr ?_
  refine (s 3 (by omega) (ms_ D 3) _).mpr ?_
  refine (s 4 (by omega) (ms_ D 4) _).mpr ?_
  refine (s 5 (by omega) (ms_ D 5) _).mpr ?_
  refine (s 6 (by omega) (ms_ D 6) _).mpr ?_
  refine (s 7 (by omega) (ms_ D 7) _).mpr ?_
  refine (s 8 (by omega) (ms_ D 8) _).mpr ?_
  refine (s 9 (by omega) (ms_ D 9) _).mpr ?_
  refine (s 10 (by omega) (ms_ D 10) _).mpr ?_
  refine (s 11 (by omega) (ms_ D 11) _).mpr ?_
  refine (s 12 (by omega) (ms_ D 12) _).mpr ?_
  refine (s 13 (by omega) (ms_ D 13) _).mpr ?_
  refine (s 14 (by omega) (ms_ D 14) _).mpr ?_
  refine (s 15 (by omega) (ms_ D 15) _).mpr ?_
  exact h
theorem mp_243r {P : pu_D → Prop} (h : pu_V X 191 [.ref 85, .ref 117, .int 1] (mr_ D 16) P) : pu_V X 243 [.ref 85, .int 1] D P := by
  refine pu_e243 ?_
  have s := fun (c : Nat) (hc : c < 16) (E : pu_D) Q => mp_242r (X := X) (D := E) (P := Q) hc
  refine (s 0 (by omega) (mr_ D 0) _).mpr ?_
  refine (s 1 (by omega) (mr_ D 1) _).mpr ?_
  refine (s 2 (by omega) (mr_ D 2) _).mpr ?_
  refine (s 3 (by omega) (mr_ D 3) _).mpr ?_
  refine (s 4 (by omega) (mr_ D 4) _).mpr ?_
  refine (s 5 (by omega) (mr_ D 5) _).mpr ?_
  refine (s 6 (by omega) (mr_ D 6) _).mpr ?_
  refine (s 7 (by omega) (mr_ D 7) _).mpr ?_
  refine (s 8 (by omega) (mr_ D 8) _).mpr ?_
  refine (s 9 (by omega) (mr_ D 9) _).mpr ?_
  refine (s 10 (by omega) (mr_ D 10) _).mpr ?_
  refine (s 11 (by omega) (mr_ D 11) _).mpr ?_
  refine (s 12 (by omega) (mr_ D 12) _).mpr ?_
  refine (s 13 (by omega) (mr_ D 13) _).mpr ?_
  refine (s 14 (by omega) (mr_ D 14) _).mpr ?_
  refine (s 15 (by omega) (mr_ D 15) _).mpr ?_
  exact h
/-- the column of the w-th number of table t -/
theorem co_B : (List.range 7).all (fun t => (List.range (wd_ t)).all fun w => decide (87 + (cm_ t + w - 87) = cm_ t + w) && decide (cm_ t + w - 87 < 16) && decide (oc_ (cm_ t + w - 87) = ko_ t + w * mo_ t) && decide (lc_ (cm_ t + w - 87) = mo_ t)) = true := by decide +kernel
theorem co_h {t w : Nat} (ht : t < 7) (hw : w < wd_ t) : ∃ c, c < 16 ∧ 87 + c = cm_ t + w ∧ oc_ c = ko_ t + w * mo_ t ∧ lc_ c = mo_ t := by
  have h := List.all_eq_true.mp (List.all_eq_true.mp co_B t (List.mem_range.mpr ht)) w (List.mem_range.mpr hw)
  simp only [Bool.and_eq_true, decide_eq_true_eq] at h
  exact ⟨_, h.1.1.2, h.1.1.1, h.1.2, h.2⟩
theorem oq_127 (h : rel_ D) : op_ X D 127 [.ref 0] 244 [.ref 85] := by
  obtain ⟨S, hr⟩ := h
  obtain ⟨g1, g2, g3, g4, g5, g6, g7, g8, g9, g10⟩ := id hr
  refine pu_e127 ?_
  -- the image's tables have their length
  have hmo : ∀ t, t < 7 → D.1 (33 + 2 + 2 * t) 0 = nu_i (mo_ t) := fun t ht => g4 33 (Or.inr rfl) t ht
  refine sp_46 (b := 1) (b' := 33) g1 (Or.inl rfl) (Or.inr (Or.inr rfl)) (by omega) g2 hmo fun D1 hC33 a1 => ?_
  have hM1 : re_M S D1 := rm_ag g3 a1 (fun q j z => by omega)
  refine pu_e244 ?_
  refine mp_243s (mp_191s fun D3 a3 h3 => ?_)
  generalize hE : pu_wi (pu_wi D1 0 3 1) 85 51 1 = E at *
  have aE : ag_ (fun q j => (q = 0 ∧ j = 3) ∨ (q = 85 ∧ j = 51)) D1 E := by
    rw [← hE]; exact ag_wi (ag_wi (ag_rf D1) (Or.inl ⟨rfl, rfl⟩)) (Or.inr ⟨rfl, rfl⟩)
  have e03 : E.1 0 3 = 1 := by rw [← hE, wi_q (by omega), wi_eq]
  have e51 : E.1 85 51 = 1 := by rw [← hE, wi_eq]
  obtain ⟨i1, i2⟩ := ms_i (D := E) 16 (by omega)
  have a : ag_ (fun q j => (34 ≤ q ∧ q ≤ 48 ∧ ¬ (j = 0 ∧ q % 2 = 1)) ∨ (q = 0 ∧ j = 3) ∨ (q = 85 ∧ j = 51) ∨ q = 112 ∨ q = 117) D D3 := ag_tr (ag_tr (ag_tr (ag_mo a1 fun q j z => by omega) (ag_mo aE fun q j z => by omega)) (ag_mo i1 fun q j z => by omega)) (ag_mo a3 fun q j z => by omega)
  have hME : re_M S E := rm_ag hM1 aE (fun q j z => by omega)
  have e : ∀ q j, ¬ ((34 ≤ q ∧ q ≤ 48 ∧ ¬ (j = 0 ∧ q % 2 = 1)) ∨ (q = 0 ∧ j = 3) ∨ (q = 85 ∧ j = 51) ∨ q = 112 ∨ q = 117) → D3.1 q j = D.1 q j := a.1
  have hcol : ∀ q j, q ≠ 112 → q ≠ 117 → D3.1 q j = E.1 q j := fun q j z1 z2 => (a3.1 q j z2).trans (i1.1 q j z1)
  refine ⟨?_, S, g1, ?_, ?_, fun b hb t ht => ?_, ⟨?_, Or.inr ⟨?_, S, g1, ?_, fun t ht => ⟨?_, fun w hw i hi => ?_⟩, fun j hj => ?_⟩⟩, fun n hn => ?_, fun k hk1 hk2 => ?_, ?_, ?_, fun i hi => ?_⟩
  · rw [e _ _ (by omega), (rm_n g3).2.1]
    show (pu_wi D1 0 3 1).1 5 2 = _
    rw [wi_q (by omega), a1.1 _ _ (by omega)]; exact (re_n g2).2.1
  · exact re_Cag g2 a (fun q j x y z => by omega)
  · exact ⟨fun t ht => ⟨by rw [hcol _ _ (by omega) (by omega)]; exact (hME.1 t ht).1, fun w hw i hi => by have := cm_b ht; rw [hcol _ _ (by omega) (by omega)]; exact (hME.1 t ht).2 w hw i hi⟩, fun j hj => by rw [hcol _ _ (by omega) (by omega)]; exact hME.2 j hj⟩
  · rw [e _ _ (by omega)]; exact g4 b hb t ht
  · rw [hcol _ _ (by omega) (by omega), hcol _ _ (by omega) (by omega), e03, e51]
  · rw [hcol _ _ (by omega) (by omega), e03]
  · have : re_C 33 S E := re_Cag hC33 aE (fun q j x y z => by omega)
    refine ⟨fun t ht => ⟨?_, ?_, fun i hi w hw => ?_⟩, fun j hj => ?_⟩
    · rw [hcol _ _ (by omega) (by omega)]; exact (this.1 t ht).1
    · rw [hcol _ _ (by omega) (by omega)]; exact (this.1 t ht).2.1
    · rw [hcol _ _ (by omega) (by omega)]; exact (this.1 t ht).2.2 i hi w hw
    · rw [hcol _ _ (by omega) (by omega)]; exact this.2 j hj
  · rw [h3 t (by omega), i1.1 _ _ (by omega)]; exact (hME.1 t ht).1
  · obtain ⟨c, c1, c2, c3, c4⟩ := co_h ht hw
    have := g1.1 t ht
    rw [a3.1 _ _ (by omega), ← c3, i2 c c1 i (by omega), c2]; exact (hME.1 t ht).2 w hw i hi
  · rw [h3 (7 + j) (by omega), i1.1 _ _ (by omega)]; exact hME.2 j hj
  · exact sf_ag hn (g6 n hn) a (fun q j z => by omega)
  · rw [e _ _ (by omega), e _ _ (by omega)]; exact g7 k hk1 hk2
  · rw [e _ _ (by omega), e _ _ (by omega)]; exact g8
  · exact tr_ag g9 a (fun q j z => by omega)
  · rw [e _ _ (by omega)]; exact g10 i hi
theorem oq_128 (h : rel_ D) : op_ X D 128 [.ref 0] 245 [.ref 85] := by
  obtain ⟨S, hr⟩ := h
  obtain ⟨g1, g2, g3, g4, ⟨k0, k1⟩, g6, g7, g8, g9, g10⟩ := id hr
  refine pu_e128 ?_
  rcases k1 with k1 | ⟨k1, K, kW, kC, kK⟩
  · rw [if_pos k1, sp_130_6]
    refine pu_e245 ?_
    rw [show (rf_ D 6).1 85 51 = 0 from rf_85.trans (k0.symm.trans k1), if_pos rfl, mp_149_6]
    exact ⟨rfl, S, rx_rf hr⟩
  · rw [if_neg (by rw [k1]; decide)]
    refine sp_46 (b := 33) (b' := 1) kW (Or.inr (Or.inr rfl)) (Or.inl rfl) (by omega) kC (fun t ht => (g2.1 t ht).2.1) fun D1 hC1 a1 => ?_
    refine pu_e245 ?_
    rw [a1.1 85 51 (by omega), ← k0, k1, if_neg (by decide)]
    refine mp_243r (mp_191r fun D3 a3 h3 => ?_)
    obtain ⟨i1, i2⟩ := mr_i (D := D1) 16 (by omega)
    have a : ag_ yy_ D D3 := ag_tr (ag_tr (ag_mo a1 fun q j z => by unfold yy_; omega) (ag_mo i1 fun q j z => by unfold yy_; omega)) (ag_mo a3 fun q j z => by unfold yy_; omega)
    have hM3 : re_M K D3 := by
      refine ⟨fun t ht => ⟨?_, fun w hw i hi => ?_⟩, fun j hj => ?_⟩
      · rw [h3 t (by omega), i1.1 _ _ (by omega), a1.1 _ _ (by omega)]; exact (kK.1 t ht).1
      · obtain ⟨c, c1, c2, c3, c4⟩ := co_h ht hw
        have := kW.1 t ht
        have := cm_b ht
        rw [a3.1 _ _ (by omega), ← c2, i2 c c1 i (by omega), a1.1 _ _ (by omega), c3]; exact (kK.1 t ht).2 w hw i hi
      · rw [h3 (7 + j) (by omega), i1.1 _ _ (by omega), a1.1 _ _ (by omega)]; exact kK.2 j hj
    have hC3 : re_C 1 K D3 := re_Cag (re_Cag hC1 i1 (fun q j x y z => by omega)) a3 (fun q j x y z => by omega)
    refine ⟨?_, K, rx_up hr kW hC3 hM3 a⟩
    rw [(rm_n hM3).2.1]; exact (re_n hC1).2.1
end ST
