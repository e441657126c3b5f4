/-! A ROW READ by the reference; the street out of a row. -/
/-- S' has all that S has, and more -/
def ex_ (S S' : Nat → Nat → Nat → Nat) : Prop := ∀ t, t < 7 → S 8 0 t ≤ S' 8 0 t ∧ ∀ i, i < S 8 0 t → ∀ w, S' t i w = S t i w
/-- what reading a row may change in the reference -/
def mxx_ (q j : Nat) : Prop := (q = 85 ∧ (j ≤ 11 ∨ j = 38 ∨ j = 40 ∨ j = 41)) ∨ (87 ≤ q ∧ q ≤ 102)
section WD
variable {X : px_X} {S : Nat → Nat → Nat → Nat} {D : pu_D}
theorem ex_iz {n sz w p : Nat} {S2 : Nat → Nat → Nat → Nat} (h : ex_ S S2) (hw : w < 11) : ex_ S (iz_ D n sz S2 w p) := by
  intro t ht
  obtain ⟨h1, h2⟩ := h t ht
  unfold iz_
  by_cases h4 : w < 4
  · rw [if_pos h4, cg_o (by omega)]
    exact ⟨h1, fun i hi j => by rw [cg_o (by omega)]; exact h2 i hi j⟩
  · rw [if_neg h4, ad_n (by omega)]
    refine ⟨?_, fun i hi j => ?_⟩
    · split
      · rename_i e; subst e; omega
      · exact h1
    · rw [ad_o (by omega) (fun z => by obtain ⟨z1, z2⟩ := z; subst z1; omega)]; exact h2 i hi j
theorem rm_ag2 {Z : Nat → Nat → Prop} {D' : pu_D} (hM : re_M S D) (h : ag_ Z D D') (hZ : ∀ q j, Z q j → ¬ (87 ≤ q ∧ q ≤ 102) ∧ ¬ (q = 85 ∧ j ≤ 10)) : re_M S D' := by
  refine ⟨fun t ht => ⟨?_, fun w hw i hi => ?_⟩, fun j hj => ?_⟩
  · rw [h.1 _ _ (fun z => (hZ _ _ z).2 ⟨rfl, by omega⟩)]; exact (hM.1 t ht).1
  · have := cm_b ht
    rw [h.1 _ _ (fun z => (hZ _ _ z).1 (by omega))]; exact (hM.1 t ht).2 w hw i hi
  · rw [h.1 _ _ (fun z => (hZ _ _ z).2 ⟨rfl, by omega⟩)]; exact hM.2 j hj
set_option maxRecDepth 10000 in
theorem mp_191s1 {P : pu_D → Prop} (hP : ∀ D', ag_ (fun q _ => q = 111) D D' → (∀ j, j < 11 → D'.1 111 j = D.1 85 j) → P D') : pu_V X 191 [.ref 85, .ref 111, .int 0] D P := by
  refine pu_e191 (by decide) ?_
  rw [if_pos rfl]
  refine ⟨by decide, by decide, by decide, by decide, by decide, by decide, by decide, by decide, by decide, by decide, by decide, hP _ ?_ fun j hj => ?_⟩
  · exact ag_wi (ag_wi (ag_wi (ag_wi (ag_wi (ag_wi (ag_wi (ag_wi (ag_wi (ag_wi (ag_wi (ag_rf D) rfl) rfl) rfl) rfl) rfl) rfl) rfl) rfl) rfl) rfl) rfl
  · rcases (show j = 0 ∨ j = 1 ∨ j = 2 ∨ j = 3 ∨ j = 4 ∨ j = 5 ∨ j = 6 ∨ j = 7 ∨ j = 8 ∨ j = 9 ∨ j = 10 by omega) with rfl | rfl | rfl | rfl | rfl | rfl | rfl | rfl | rfl | rfl | rfl <;> rfl
set_option maxRecDepth 10000 in
theorem mp_191r1 {P : pu_D → Prop} (hP : ∀ D', ag_ (fun q j => q = 85 ∧ j ≤ 10) D D' → (∀ j, j < 11 → D'.1 85 j = D.1 111 j) → P D') : pu_V X 191 [.ref 85, .ref 111, .int 1] D P := by
  refine pu_e191 (by decide) ?_
  rw [if_neg (by decide)]
  refine ⟨by decide, by decide, by decide, by decide, by decide, by decide, by decide, by decide, by decide, by decide, by decide, hP _ ?_ fun j hj => ?_⟩
  · exact ag_wi (ag_wi (ag_wi (ag_wi (ag_wi (ag_wi (ag_wi (ag_wi (ag_wi (ag_wi (ag_wi (ag_rf D) ⟨rfl, by decide⟩) ⟨rfl, by decide⟩) ⟨rfl, by decide⟩) ⟨rfl, by decide⟩) ⟨rfl, by decide⟩) ⟨rfl, by decide⟩) ⟨rfl, by decide⟩) ⟨rfl, by decide⟩) ⟨rfl, by decide⟩) ⟨rfl, by decide⟩) ⟨rfl, by decide⟩
  · rcases (show j = 0 ∨ j = 1 ∨ j = 2 ∨ j = 3 ∨ j = 4 ∨ j = 5 ∨ j = 6 ∨ j = 7 ∨ j = 8 ∨ j = 9 ∨ j = 10 by omega) with rfl | rfl | rfl | rfl | rfl | rfl | rfl | rfl | rfl | rfl | rfl <;> rfl
/-- the counts and measures put aside -/
def cwq_ (S : Nat → Nat → Nat → Nat) (D : pu_D) : Prop := (∀ t, t < 7 → D.1 111 t = nu_i (S 8 0 t)) ∧ ∀ j, j < 4 → D.1 111 (7 + j) = nu_i (S 7 0 j)
theorem mp_192L {n sz : Nat} {P : Int32 → pu_D → Prop} (hn : n < 8) (hs : sz ≤ 120) (hw : h110 D) (hc : cwq_ S D) (H0 : ∀ q S' c D', rd_ D n sz (sz + 1) S 0 0 = (some q, S', c) → ag_ mxx_ D D' → re_M S D' → D'.1 85 11 = nu_i q → pu_I X 149 [.ref 85, .int (-6)] D' P) (H1 : ∀ S' c D', rd_ D n sz (sz + 1) S 0 0 = (none, S', c) → ag_ my_ D D' → re_M S' D' → P (nu_i c) D') : ∀ (f : Nat) (S2 : Nat → Nat → Nat → Nat) (p c : Nat) (D' : pu_D), sz < p + f → p ≤ sz → rd_ D n sz (sz + 1) S 0 0 = rd_ D n sz f S2 p c → wf_ S2 → ex_ S S2 → ag_ my_ D D' → re_M S2 D' → ps_ D' n sz p → pu_I X 190 [.ref 85] D' (fun y D2 => pu_h192_62 X (nu_i (c + 1)) y D2 P) := by
  -- wrong at q
  have bad : ∀ (S2 : Nat → Nat → Nat → Nat) (q c x : Nat) (D2 : pu_D), rd_ D n sz (sz + 1) S 0 0 = (some q, S2, c) → ex_ S S2 → ag_ my_ D D2 → re_M S2 D2 → D2.1 85 41 = nu_i q → pu_h192_62 X (nu_i x) 0 D2 P := by
    intro S2 q c x D2 hrd hex ha hM h41
    refine pu_u192_62 ?_
    rw [if_pos rfl, if_pos rfl]
    refine mp_191r1 fun D3 a3 h3 => ?_
    have aD3 : ag_ mxx_ D (pu_wi D3 85 11 (D3.1 85 41)) := ag_wi (ag_tr (ag_mo ha fun q j z => by unfold my_ at z; unfold mxx_; omega) (ag_mo a3 fun q j z => by unfold mxx_; omega)) (by unfold mxx_; omega)
    refine H0 q S2 c _ hrd aD3 ⟨fun t ht => ⟨?_, fun w hw2 i hi => ?_⟩, fun j hj => ?_⟩ ?_
    · rw [wi_j (by omega), h3 t (by omega), ha.1 _ _ (by unfold my_; omega)]; exact hc.1 t ht
    · have := cm_b ht
      obtain ⟨e1, e2⟩ := hex t ht
      rw [wi_q (by omega), a3.1 _ _ (by omega), (hM.1 t ht).2 w hw2 i (by omega), e2 i hi]
    · rw [wi_j (by omega), h3 (7 + j) (by omega), ha.1 _ _ (by unfold my_; omega)]; exact hc.2 j hj
    · rw [wi_eq, a3.1 _ _ (by omega)]; exact h41
  intro f
  induction f with
  | zero => intro S2 p c D' h1 h2; omega
  | succ f ih =>
    intro S2 p c D' hf hp hrd hW hex ha hM hps
    obtain ⟨g1, g2, g3⟩ := ie_ag (S := S2) (n := n) (sz := sz) (p := p) ha.2
    have hw' : h110 D' := fun i hi => by rw [ha.1 _ _ (by unfold my_; omega)]; exact hw i hi
    rw [rd_s (f := f)] at hrd
    refine mp_190 ⟨fun q D2 hq ha2 h41 => ?_, fun D2 hq ha2 hM2 hps2 => ?_⟩ hW hM hn hs (by omega) hps hw'
    · rw [g1] at hq
      rw [if_neg (by rw [hq]; exact fun z => by cases z), hq] at hrd
      exact bad S2 q c (c + 1) D2 hrd hex (ag_tr ha (mz_my ha2)) (rm_ag hM ha2 mz_zm) h41
    · rw [g1] at hq
      rw [g2] at hM2
      rw [g3] at hps2
      rw [if_pos hq] at hrd
      have hip := ip_le hq
      have aD2 : ag_ my_ D D2 := ag_tr ha ha2
      have hW2 : wf_ (is_ D n sz S2 p) := wf_is hW hq
      have hex2 : ex_ S (is_ D n sz S2 p) := ex_iz hex (ww_lt hq).1
      refine pu_u192_62 ?_
      rw [if_neg (by decide), hps2.2.1, hps2.2.2, hps2.1]
      by_cases c1 : sz ≤ iq_ D n sz p
      · rw [if_pos c1] at hrd
        rw [if_neg (nu_ltx (by omega) (by omega)), if_neg (by decide)]
        exact H1 _ _ D2 hrd aD2 hM2
      · rw [if_neg c1] at hrd
        rw [if_pos (nu_ltp (by omega) (by omega)), nu_add, nu_in (by omega), nu_ix (by omega), aD2.2]
        refine ⟨by omega, ?_⟩
        have ej : jv_ D n sz (iq_ D n sz p) = Int64.toInt32 (D.2 108 (120 * n + iq_ D n sz p)) := if_pos (by omega)
        rw [ej] at hrd
        by_cases c2 : Int64.toInt32 (D.2 108 (120 * n + iq_ D n sz p)) = 59
        · rw [if_pos c2] at hrd
          rw [if_pos c2, nu_addn, nu_addn]
          have aE : ag_ (fun q j => q = 85 ∧ j = 38) D2 (pu_wi D2 85 38 (nu_i (iq_ D n sz p + 1))) := ag_wi (ag_rf D2) ⟨rfl, rfl⟩
          refine ih _ (iq_ D n sz p + 1) (c + 1) _ (by omega) (by omega) hrd hW2 hex2 (ag_tr aD2 (ag_mo aE fun q j z => by unfold my_; omega)) (rm_ag2 hM2 aE fun q j z => by omega) ⟨?_, wi_eq, ?_⟩
          · rw [wi_j (by omega)]; exact hps2.1
          · rw [wi_j (by omega)]; exact hps2.2.2
        · rw [if_neg c2] at hrd
          rw [if_neg c2, mp_183]
          have aE : ag_ (fun q j => q = 85 ∧ j = 41) D2 (pu_wi D2 85 41 (nu_i (iq_ D n sz p))) := ag_wi (ag_rf D2) ⟨rfl, rfl⟩
          exact bad _ _ _ (c + 1) _ hrd hex2 (ag_tr aD2 (ag_mo aE fun q j z => by unfold my_; omega)) (rm_ag2 hM2 aE fun q j z => by omega) wi_eq
theorem rd_ag {D' : pu_D} {n sz : Nat} (h : D'.2 = D.2) : ∀ (f : Nat) (S : Nat → Nat → Nat → Nat) (p c : Nat), rd_ D' n sz f S p c = rd_ D n sz f S p c := by
  intro f
  induction f with
  | zero => intro S p c; rfl
  | succ f ih =>
    intro S p c
    obtain ⟨g1, g2, g3⟩ := ie_ag (S := S) (n := n) (sz := sz) (p := p) h
    rw [rd_s (f := f), rd_s (f := f), g1, g2, g3, jv_ag h, ih]
/-- what the reading of a row may change on both sides -/
def ys_ (q j : Nat) : Prop := yy_ q j ∨ (q = 0 ∧ j = 10) ∨ (q = 85 ∧ j = 11) ∨ q = 68 ∨ q = 86
theorem rx_ys {S' : Nat → Nat → Nat → Nat} {D' : pu_D} (h : rx_ S D) (hW : wf_ S') (hC : re_C 1 S' D') (hM : re_M S' D') (a : ag_ ys_ D D') (h68 : ∀ k, 1 ≤ k → k ≤ 7 → D'.1 68 k = D'.1 86 k) (hf : D'.1 0 10 = D'.1 85 11) : rx_ S' D' := by
  obtain ⟨h1, h2, h3, h4, h5, h6, h7, h8, h9, h10⟩ := h
  have e : ∀ q j, ¬ ys_ q j → D'.1 q j = D.1 q j := a.1
  refine ⟨hW, hC, hM, fun b hb t ht => ?_, kp_ag h5 a (fun q j z => by unfold ys_ yy_ zz_ at z; omega), fun n hn => sf_ag hn (h6 n hn) a (fun q j z => by unfold ys_ yy_ zz_ at z; omega), h68, hf, tr_ag h9 a (fun q j z => by unfold ys_ yy_ zz_ at z; omega), fun i hi => ?_⟩
  · rw [e _ _ (by unfold ys_ yy_ zz_; omega)]; exact h4 b hb t ht
  · rw [e _ _ (by unfold ys_ yy_ zz_; omega)]; exact h10 i hi
/-- the reference's side of a row that is one -/
theorem mp_192 {E : pu_D} {n so sz : Nat} {P : Int32 → pu_D → Prop} (hn : n < 8) (hr : ro_ D n so sz) (hW : wf_ S) (hM : re_M S D) (hw : h110 D) (aE : ag_ (fun q _ => ¬ (85 ≤ q ∧ q ≤ 117)) D E) (e166 : ∀ P, pu_I X 166 [.ref 85, .int (nu_i n), .int 1] E P = P 0 E) (H0 : ∀ q S' c D', rd_ D n sz (sz + 1) S 0 0 = (some q, S', c) → ag_ (fun q j => mxx_ q j ∨ q = 111 ∨ (q = 85 ∧ (j = 37 ∨ j = 39))) E D' → re_M S D' → D'.1 85 11 = nu_i q → pu_I X 149 [.ref 85, .int (-6)] D' P) (H1 : ∀ S' c D', rd_ D n sz (sz + 1) S 0 0 = (none, S', c) → ag_ (fun q j => mxx_ q j ∨ q = 111 ∨ (q = 85 ∧ (j = 37 ∨ j = 39))) E D' → re_M S' D' → D'.1 85 11 = -1 → P (nu_i c) D') : pu_I X 192 [.ref 85, .int (nu_i n)] E P := by
  have hsz : sz ≤ 120 := hr.2.1
  have hME : re_M S E := rm_ag2 hM aE fun q j z => by omega
  refine pu_e192 ?_
  rw [e166, if_pos rfl]
  refine mp_191s1 fun D5 a5 h5 => ?_
  rw [nu_in (by omega), nu_ix (by omega), nu_nmul]
  refine ⟨hn, ?_⟩
  rw [wi_q (by omega), wi_q (by omega), a5.1 105 n (by omega), aE.1 105 n (by omega), hr.2.2.2.2.2.1]
  have aF : ag_ (fun q j => q = 85 ∧ (j = 37 ∨ j = 38 ∨ j = 39 ∨ j = 11)) D5 (pu_wi (pu_wi (pu_wi (pu_wi D5 85 37 (nu_i (120 * n))) 85 38 0) 85 39 (nu_i sz)) 85 11 (-1)) := ag_wi (ag_wi (ag_wi (ag_wi (ag_rf D5) ⟨rfl, by omega⟩) ⟨rfl, by omega⟩) ⟨rfl, by omega⟩) ⟨rfl, by omega⟩
  have ps0 : ps_ (pu_wi (pu_wi (pu_wi (pu_wi D5 85 37 (nu_i (120 * n))) 85 38 0) 85 39 (nu_i sz)) 85 11 (-1)) n sz 0 := by
    refine ⟨?_, ?_, ?_⟩
    · rw [wi_j (by omega), wi_j (by omega), wi_j (by omega), wi_eq]
    · rw [wi_j (by omega), wi_j (by omega), wi_eq]; rfl
    · rw [wi_j (by omega), wi_eq]
  have e11 : (pu_wi (pu_wi (pu_wi (pu_wi D5 85 37 (nu_i (120 * n))) 85 38 0) 85 39 (nu_i sz)) 85 11 (-1)).1 85 11 = -1 := wi_eq
  generalize pu_wi (pu_wi (pu_wi (pu_wi D5 85 37 (nu_i (120 * n))) 85 38 0) 85 39 (nu_i sz)) 85 11 (-1) = F at *
  have hM5 : re_M S D5 := rm_ag2 hME a5 fun q j z => by omega
  have hMF : re_M S F := rm_ag2 hM5 aF fun q j z => by omega
  have eF2 : F.2 = D.2 := aF.2.trans (a5.2.trans aE.2)
  have hwF : h110 F := fun i hi => by rw [aF.1 _ _ (by omega), a5.1 _ _ (by omega), aE.1 _ _ (by omega)]; exact hw i hi
  have hcF : cwq_ S F := ⟨fun t ht => by rw [aF.1 _ _ (by omega), h5 t (by omega)]; exact (hME.1 t ht).1, fun j hj => by rw [aF.1 _ _ (by omega), h5 (7 + j) (by omega)]; exact hME.2 j hj⟩
  have aEF : ag_ (fun q j => mxx_ q j ∨ q = 111 ∨ (q = 85 ∧ (j = 37 ∨ j = 39))) E F := ag_tr (ag_mo a5 fun q j z => Or.inr (Or.inl z)) (ag_mo aF fun q j z => by unfold mxx_; omega)
  refine mp_192L (D := F) (S := S) hn hsz hwF hcF (fun q S' c D' hrd ha hM' h11 => ?_) (fun S' c D' hrd ha hM' => ?_) (sz + 1) S 0 0 F (by omega) (Nat.zero_le _) rfl hW (fun t ht => ⟨Nat.le_refl _, fun i hi w => rfl⟩) (ag_rf F) hMF ps0
  · rw [rd_ag eF2] at hrd
    exact H0 q S' c D' hrd (ag_tr aEF (ag_mo ha fun q j z => Or.inl z)) hM' h11
  · rw [rd_ag eF2] at hrd
    refine H1 S' c D' hrd (ag_tr aEF (ag_mo ha fun q j z => by unfold my_ at z; unfold mxx_; omega)) hM' ?_
    rw [ha.1 _ _ (by unfold my_; omega)]; exact e11
/-- cells that reading changes, by kind -/
def wa_ (q j : Nat) : Prop := (18 ≤ q ∧ q ≤ 32 ∧ ¬ (j = 0 ∧ q % 2 = 1)) ∨ cy_ q j ∨ (q = 0 ∧ j = 10) ∨ q = 68
def wb_ (q j : Nat) : Prop := mxx_ q j ∨ q = 111 ∨ (q = 85 ∧ (j = 37 ∨ j = 39))
def wc_ (q j : Nat) : Prop := (2 ≤ q ∧ q ≤ 16 ∧ ¬ (j = 0 ∧ q % 2 = 1)) ∨ (18 ≤ q ∧ q ≤ 32 ∧ ¬ (j = 0 ∧ q % 2 = 1)) ∨ cy_ q j ∨ (q = 0 ∧ j = 10)
theorem ys_cy : ∀ q j, cy_ q j → ys_ q j := fun q j h => by
  rcases h with h | h | h
  · exact Or.inl (Or.inr (Or.inr (Or.inr (Or.inl h))))
  · exact Or.inl (Or.inr (Or.inr (Or.inr (Or.inr (Or.inl h)))))
  · exact Or.inl (Or.inr (Or.inr (Or.inr (Or.inr (Or.inr (Or.inr (Or.inr (Or.inl h))))))))
theorem ys_18 : ∀ q j, (18 ≤ q ∧ q ≤ 32 ∧ ¬ (j = 0 ∧ q % 2 = 1)) → ys_ q j := fun q j h => Or.inl (Or.inr (Or.inr (Or.inr (Or.inr (Or.inr (Or.inr (Or.inr (Or.inl h))))))))
theorem ys_wa : ∀ q j, wa_ q j → ys_ q j := fun q j h => by
  rcases h with h | h | h | h
  · exact ys_18 q j h
  · exact ys_cy q j h
  · exact Or.inr (Or.inl h)
  · exact Or.inr (Or.inr (Or.inr (Or.inl h)))
theorem ys_wc : ∀ q j, wc_ q j → ys_ q j := fun q j h => by
  rcases h with h | h | h | h
  · exact Or.inl (Or.inl h)
  · exact ys_18 q j h
  · exact ys_cy q j h
  · exact Or.inr (Or.inl h)
theorem ys_85 {j : Nat} (h : (37 ≤ j ∧ j ≤ 41) ∨ j = 45) : ys_ 85 j := Or.inl (Or.inr (Or.inr (Or.inr (Or.inr (Or.inr (Or.inr (Or.inr (Or.inr (Or.inr (Or.inr (Or.inr (Or.inr ⟨rfl, h⟩))))))))))))
theorem ys_wb : ∀ q j, wb_ q j → ys_ q j := fun q j h => by
  rcases h with (⟨h1, h2⟩ | h) | h | ⟨h1, h2⟩
  · subst h1
    rcases Nat.lt_or_ge j 11 with h3 | h3
    · exact Or.inl (Or.inr (Or.inr (Or.inl ⟨rfl, by omega⟩)))
    · rcases (show j = 11 ∨ (37 ≤ j ∧ j ≤ 41) by omega) with h4 | h4
      · exact Or.inr (Or.inr (Or.inl ⟨rfl, h4⟩))
      · exact ys_85 (Or.inl h4)
  · exact Or.inl (Or.inr (Or.inl h))
  · exact Or.inl (Or.inr (Or.inr (Or.inr (Or.inr (Or.inr (Or.inr (Or.inr (Or.inr (Or.inl h)))))))))
  · subst h1; exact ys_85 (Or.inl (by omega))
/-- what they leave -/
theorem wa_n {q j : Nat} (h : wa_ q j) : q = 0 ∧ j = 10 ∨ 18 ≤ q ∧ q ≤ 68 := by unfold wa_ cy_ at h; omega
theorem wb_n {q j : Nat} (h : wb_ q j) : q = 85 ∨ q = 111 ∨ (87 ≤ q ∧ q ≤ 102) := by unfold wb_ mxx_ at h; omega
theorem wc_n {q j : Nat} (h : wc_ q j) : q = 0 ∧ j = 10 ∨ (2 ≤ q ∧ q ≤ 51) := by unfold wc_ cy_ at h; omega
theorem wc_m {q j : Nat} (h : wc_ q j) : 2 ≤ q → q ≤ 16 → ¬ (j = 0 ∧ q % 2 = 1) := by unfold wc_ cy_ at h; omega
/-- the reference's side, where the row is wrong -/
theorem oq_100n {E : pu_D} {n so sz q c : Nat} {S' : Nat → Nat → Nat → Nat} (hr : rx_ S D) (hn : n < 8) (h0 : ro_ D n so sz) (hrd : rd_ D n sz (sz + 1) S 0 0 = (some q, S', c)) (aDE : ag_ wa_ D E) (e166 : ∀ P, pu_I X 166 [.ref 85, .int (nu_i n), .int 1] E P = P 0 E) (e10 : E.1 0 10 = nu_i q) (e68 : ∀ k, E.1 68 k = if k = 6 then D.1 68 6 + 1 else D.1 68 k) : pu_I X 192 [.ref 85, .int (nu_i n)] E (fun y2 D2 => -6 = y2 ∧ rel_ D2) := by
  obtain ⟨g1, g2, g3, g4, g5, g6, g7, g8, g9, g10⟩ := id hr
  refine mp_192 (D := D) (S := S) hn h0 g1 g3 g10 (ag_mo aDE fun q j z => by have := wa_n z; omega) e166 (fun q' S2 c2 D' hrd2 ha hM' h11 => ?_) (fun S2 c2 D' hrd2 ha hM' h11 => ?_)
  · rw [hrd] at hrd2
    have e0 : some q = some q' := congrArg Prod.fst hrd2
    have e1 : q' = q := (Option.some.inj e0).symm
    subst e1
    have ha : ag_ wb_ E D' := ha
    rw [mp_149_6]
    have aN : ag_ (fun q _ => q = 86) D' (rn_ D' 6) := ag_wi (ag_rf D') rfl
    have aD' : ag_ ys_ D (rn_ D' 6) := ag_tr (ag_tr (ag_mo aDE ys_wa) (ag_mo ha ys_wb)) (ag_mo aN fun q j z => Or.inr (Or.inr (Or.inr (Or.inr z))))
    refine ⟨rfl, S, rx_ys hr g1 ?_ ?_ aD' (fun k hk1 hk2 => ?_) ?_⟩
    · have c1 : re_C 1 S E := re_Cag g2 aDE (fun q j x y z => by have := wa_n z; omega)
      have c2 : re_C 1 S D' := re_Cag c1 ha (fun q j x y z => by have := wb_n z; omega)
      exact re_Cag c2 aN (fun q j x y z => by omega)
    · exact rm_ag2 hM' aN (fun q j z => by omega)
    · have e1 : (rn_ D' 6).1 68 k = E.1 68 k := by rw [aN.1 _ _ (by omega), ha.1 _ _ (fun z => by have := wb_n z; omega)]
      have e2 : ∀ k, D'.1 86 k = D.1 86 k := fun k => by rw [ha.1 _ _ (fun z => by have := wb_n z; omega), aDE.1 _ _ (fun z => by have := wa_n z; omega)]
      rw [e1, e68]
      unfold rn_
      by_cases hk : k = 6
      · subst hk; rw [wi_eq, if_pos rfl, e2, g7 6 hk1 hk2]
      · rw [wi_j hk, if_neg hk, e2, g7 k hk1 hk2]
    · rw [aN.1 _ _ (by omega), aN.1 _ _ (by omega), h11, ha.1 _ _ (fun z => by have := wb_n z; omega), e10]
  · rw [hrd] at hrd2
    have e0 : some q = none := congrArg Prod.fst hrd2
    cases e0
/-- and where it is right -/
theorem oq_100y {E : pu_D} {n so sz c : Nat} {S' : Nat → Nat → Nat → Nat} (hr : rx_ S D) (hn : n < 8) (h0 : ro_ D n so sz) (hrd : rd_ D n sz (sz + 1) S 0 0 = (none, S', c)) (hW' : wf_ S') (aDE : ag_ wc_ D E) (e166 : ∀ P, pu_I X 166 [.ref 85, .int (nu_i n), .int 1] E P = P 0 E) (e10 : E.1 0 10 = -1) (hC1 : re_C 1 S' E) : pu_I X 192 [.ref 85, .int (nu_i n)] E (fun y2 D2 => nu_i c = y2 ∧ rel_ D2) := by
  obtain ⟨g1, g2, g3, g4, g5, g6, g7, g8, g9, g10⟩ := id hr
  refine mp_192 (D := D) (S := S) hn h0 g1 g3 g10 (ag_mo aDE fun q j z => by have := wc_n z; omega) e166 (fun q' S2 c2 D' hrd2 ha hM' h11 => ?_) (fun S2 c2 D' hrd2 ha hM' h11 => ?_)
  · rw [hrd] at hrd2
    have e0 : none = some q' := congrArg Prod.fst hrd2
    cases e0
  · rw [hrd] at hrd2
    have eS : S2 = S' := (congrArg (fun z => z.2.1) hrd2).symm
    have ec : c2 = c := (congrArg (fun z => z.2.2) hrd2).symm
    subst eS
    subst ec
    have ha : ag_ wb_ E D' := ha
    have aD' : ag_ ys_ D D' := ag_tr (ag_mo aDE ys_wc) (ag_mo ha ys_wb)
    refine ⟨rfl, S2, rx_ys hr hW' ?_ hM' aD' (fun k hk1 hk2 => ?_) ?_⟩
    · exact re_Cag hC1 ha (fun q j x y z => by have := wb_n z; omega)
    · rw [ha.1 _ _ (fun z => by have := wb_n z; omega), ha.1 _ _ (fun z => by have := wb_n z; omega), aDE.1 _ _ (fun z => by have := wc_n z; omega), aDE.1 _ _ (fun z => by have := wc_n z; omega)]; exact g7 k hk1 hk2
    · rw [h11, ha.1 _ _ (fun z => by have := wb_n z; omega), e10]
theorem oq_100x (h : rel_ D) {x1 : Int32} : op_ X D 100 [.ref 0, .int x1] 192 [.ref 85, .int x1] := by
  obtain ⟨S, hr⟩ := h
  obtain ⟨g1, g2, g3, g4, g5, g6, g7, g8, g9, g10⟩ := id hr
  refine pu_e100 ?_
  rcases sh_cases g6 X x1 with ⟨c8, ab⟩ | ⟨n, hn, rfl, ⟨h0, ab⟩ | ⟨so, sz, h0, ab⟩ | ⟨k, a, w, v, h0, ab⟩⟩
  · rw [ab.1, if_neg (by decide), sp_130_1]
    refine pu_e192 ?_
    rw [(ab.2.2 (rf_ D 1) (fun j => wi_q (by omega))).1, if_neg (by decide), mp_149_1]
    exact ⟨rfl, S, rx_rf hr⟩
  · rw [ab.1, if_neg (by decide), sp_130_3]
    refine pu_e192 ?_
    rw [(ab.2.2 (rf_ D 3) (fun j => wi_q (by omega))).1, if_neg (by decide), mp_149_3]
    exact ⟨rfl, S, rx_rf hr⟩
  · obtain ⟨s1, s2, s3⟩ := sv_ hn
    rw [ab.1, if_pos rfl]
    refine sp_46 (b := 1) (b' := 17) g1 (Or.inl rfl) (Or.inr (Or.inl rfl)) (by omega) g2 (fun t ht => g4 17 (Or.inl rfl) t ht) fun D1 hC17 a1 => ?_
    rw [nu_in (by omega), nu_ix (by omega), s1]
    refine ⟨hn, ?_⟩
    have hr1 : ro_ D1 n so sz := ro_ag hn h0 a1 (fun q j z => by omega)
    refine sp_73 g1 hC17 hn hr1 (fun q S' c D2 hrd hq a2 => ?_) (fun S' c D2 hrd hW' a2 hC2 h50 => ?_)
    · rw [rd_ag a1.2] at hrd
      rw [wi_eq, if_neg (by rw [nu_m1 (by omega)]; exact fun z => z), sp_130_6]
      have aDE : ag_ wa_ D (rf_ (pu_wi D2 0 10 (nu_i q)) 6) := ag_wi (ag_wi (ag_tr (ag_mo a1 fun q j z => Or.inl (by omega)) (ag_mo a2 fun q j z => Or.inr (Or.inl z))) (Or.inr (Or.inr (Or.inl ⟨rfl, rfl⟩)))) (Or.inr (Or.inr (Or.inr rfl)))
      have e10 : (rf_ (pu_wi D2 0 10 (nu_i q)) 6).1 0 10 = nu_i q := by unfold rf_; rw [wi_q (by omega), wi_eq]
      have e68 : ∀ k, (rf_ (pu_wi D2 0 10 (nu_i q)) 6).1 68 k = if k = 6 then D.1 68 6 + 1 else D.1 68 k := by
        intro k
        unfold rf_
        have e2 : ∀ k, (pu_wi D2 0 10 (nu_i q)).1 68 k = D.1 68 k := fun k => by rw [wi_q (by omega), a2.1 _ _ (by unfold cy_; omega), a1.1 _ _ (by omega)]
        by_cases hk : k = 6
        · subst hk; rw [wi_eq, if_pos rfl, e2]
        · rw [wi_j hk, if_neg hk, e2]
      exact oq_100n hr hn h0 hrd aDE (ab.2.2 _ (fun j => aDE.1 _ _ (fun z => by have := wa_n z; omega))).1 e10 e68
    · rw [rd_ag a1.2] at hrd
      rw [wi_eq, if_pos rfl]
      have aW : ag_ (fun q j => q = 0 ∧ j = 10) D2 (pu_wi D2 0 10 (-1)) := ag_wi (ag_rf D2) ⟨rfl, rfl⟩
      have aDW : ag_ wc_ D (pu_wi D2 0 10 (-1)) := ag_tr (ag_tr (ag_mo a1 fun q j z => Or.inr (Or.inl (by omega))) (ag_mo a2 fun q j z => Or.inr (Or.inr (Or.inl z)))) (ag_mo aW fun q j z => Or.inr (Or.inr (Or.inr z)))
      have e10 : (pu_wi D2 0 10 (-1)).1 0 10 = -1 := wi_eq
      have e50 : (pu_wi D2 0 10 (-1)).1 50 2 = nu_i c := by rw [wi_q (by omega)]; exact h50
      have hCW : re_C 17 S' (pu_wi D2 0 10 (-1)) := re_Cag hC2 aW (fun q j x y z => by omega)
      refine sp_46 (b := 17) (b' := 1) hW' (Or.inr (Or.inl rfl)) (Or.inl rfl) (by omega) hCW (fun t ht => by rw [aDW.1 _ _ (fun z => wc_m z (by omega) (by omega) (by omega))]; exact (g2.1 t ht).2.1) fun E hC1 a3 => ?_
      have aDE : ag_ wc_ D E := ag_tr aDW (ag_mo a3 fun q j z => Or.inl (by omega))
      rw [a3.1 50 2 (by omega), e50]
      exact oq_100y hr hn h0 hrd hW' aDE (ab.2.2 _ (fun j => aDE.1 _ _ (fun z => by have := wc_n z; omega))).1 (by rw [a3.1 _ _ (by omega)]; exact e10) hC1
  · rw [ab.1, if_neg (by decide), sp_130_2]
    refine pu_e192 ?_
    rw [(ab.2.2 (rf_ D 2) (fun j => wi_q (by omega))).1, if_neg (by decide), mp_149_2]
    exact ⟨rfl, S, rx_rf hr⟩
end WD
