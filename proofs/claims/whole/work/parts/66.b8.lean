/-! AN ITEM READ by the class. -/
/-- what reading an item may change in the class -/
def cz_ (q j : Nat) : Prop := (q = 50 ∧ j = 1) ∨ q = 51 ∨ (18 ≤ q ∧ q ≤ 32 ∧ ¬ (j = 0 ∧ q % 2 = 1))
section WD
variable {X : px_X} {S : Nat → Nat → Nat → Nat} {D : pu_D}
theorem cz_sh : ∀ q j, cz_ q j → ¬ (69 ≤ q ∧ q ≤ 84) ∧ ¬ (103 ≤ q ∧ q ≤ 108) := fun q j h => by unfold cz_ at h; omega
theorem nf_le {n sz w p : Nat} (hw : w < 11) : ∀ r k q, r + k ≤ 4 → nf_ D n sz w p r k = some q → q ≤ p + 23
  | 0, _, _, _, h => by cases h
  | r + 1, k, q, hr, h => by
    have h1 := pq_le (D := D) (n := n) (sz := sz) (p := p) hw k
    by_cases c1 : kb_ D n sz w p k
    · by_cases c2 : kn_ D n sz w p k
      · exact nf_le hw r (k + 1) q (by omega) ((nf_s.2.2 c1 c2).symm.trans h)
      · have := Option.some.inj ((nf_s.2.1 c1 c2).symm.trans h); omega
    · have := Option.some.inj ((nf_s.1 c1).symm.trans h); omega
/-- word w's item is added: the class's street 17 -/
theorem sp_48 {n sz w p : Nat} {P : pu_D → Prop} (hC : re_C 17 S D) (hw : w < 11) (hroom : w < 4 ∨ ¬ S 8 0 (w - 4) = mo_ (w - 4)) (hW : wf_ S) (hv : ∀ j, j < 4 → D.1 51 j = nu_i (nv_ D n sz w p j)) (hP : ∀ D', re_C 17 (iz_ D n sz S w p) D' → ag_ (fun q j => 18 ≤ q ∧ q ≤ 32 ∧ ¬ (j = 0 ∧ q % 2 = 1)) D D' → P D') : pu_V X 48 [.ref 17, .int (nu_i w), .ref 51] D P := by
  by_cases h4 : w < 4
  · rw [sp_48m h4, hv 0 (by omega)]
    refine hP _ ?_ (ag_wi (ag_rf D) (by omega))
    unfold iz_
    rw [if_pos h4]
    exact re_cm hC
  · have ht : w - 4 < 7 := by omega
    have e : w = 4 + (w - 4) := by omega
    have hlt : S 8 0 (w - 4) < mo_ (w - 4) := by
      have := hW.1 (w - 4) ht
      rcases hroom with z | z
      · exact absurd z h4
      · omega
    have key := sp_48t (X := X) (P := P) hC ht hlt fun D' hc => by
      refine hP D' ?_ (ag_mo hc.2.2 fun q j z => by omega)
      unfold iz_
      rw [if_neg h4]
      refine re_ad ht hC (fun j hj => ?_) hc
      unfold v51_ en_
      by_cases t1 : w - 4 = 1
      · have h2 : nv_ D n sz w p 2 = 0 := nv_0 (by rw [show w = 5 by omega]; decide)
        have h3 : nv_ D n sz w p 3 = 0 := nv_0 (by rw [show w = 5 by omega]; decide)
        rcases (show j = 0 ∨ j = 1 ∨ j = 2 ∨ j = 3 by omega) with rfl | rfl | rfl | rfl
        · rw [if_pos rfl, if_neg (by omega)]; exact hv 0 (by omega)
        · rw [if_neg (by omega), if_pos rfl, if_neg (by omega)]; exact hv 1 (by omega)
        · rw [if_neg (by omega), if_neg (by omega), if_pos rfl, if_pos t1, if_pos ⟨t1, rfl⟩, h2]; rfl
        · rw [if_neg (by omega), if_neg (by omega), if_neg (by omega), if_pos t1, if_neg (by omega), h3]; rfl
      · rw [if_neg (show ¬ (w - 4 = 1 ∧ j = 2) from fun z => t1 z.1)]
        rcases (show j = 0 ∨ j = 1 ∨ j = 2 ∨ j = 3 by omega) with rfl | rfl | rfl | rfl
        · rw [if_pos rfl]; exact hv 0 (by omega)
        · rw [if_neg (by omega), if_pos rfl]; exact hv 1 (by omega)
        · rw [if_neg (by omega), if_neg (by omega), if_pos rfl, if_neg t1]; exact hv 2 (by omega)
        · rw [if_neg (by omega), if_neg (by omega), if_neg (by omega), if_neg t1]; exact hv 3 (by omega)
    rw [← e] at key
    exact key
theorem vq_ag {D' : pu_D} {n sz w p : Nat} (h : D'.2 = D.2) : ∀ k, pq_ D' n sz w p k = pq_ D n sz w p k ∧ vq_ D' n sz w p k = vq_ D n sz w p k := by
  have h1 : ∀ k, pq_ D' n sz w p k = pq_ D n sz w p k := by
    intro k
    induction k with
    | zero => rfl
    | succ k ih => unfold pq_; rw [ih, dn_ag h]
  intro k
  refine ⟨h1 k, ?_⟩
  unfold vq_
  rw [h1 k, dn_ag h, vi_ag h]
theorem nv_ag {D' : pu_D} {n sz w p k : Nat} (h : D'.2 = D.2) : nv_ D' n sz w p k = nv_ D n sz w p k := by
  unfold nv_
  rw [(vq_ag h k).2]
theorem iz_ag {D' : pu_D} {n sz w p : Nat} (h : D'.2 = D.2) : iz_ D' n sz S w p = iz_ D n sz S w p := by
  have e : nv_ D' n sz w p = nv_ D n sz w p := funext fun k => nv_ag h
  unfold iz_
  rw [e]
theorem sp_74L {n so sz p w : Nat} {P : Int32 → pu_D → Prop} (hn : n < 8) (h : ro_ D n so sz) (hp : p ≤ 120) (hw : w < 11) (hW : wf_ S) (hroom : w < 4 ∨ ¬ S 8 0 (w - 4) = mo_ (w - 4)) (H0 : ∀ q D', nf_ D n sz w p (nb_ w) 0 = some q → ag_ cz_ D D' → P (nu_i q) D') (H1 : ∀ D', nf_ D n sz w p (nb_ w) 0 = none → ag_ cz_ D D' → re_C 17 (iz_ D n sz S w p) D' → D'.1 50 1 = nu_i (pq_ D n sz w p (nb_ w)) → P (-1) D') : ∀ r k D', k + r = nb_ w → nf_ D n sz w p (nb_ w) 0 = nf_ D n sz w p r k → ag_ cz_ D D' → re_C 17 S D' → D'.1 50 1 = nu_i (pq_ D n sz w p k) → (∀ j, j < 4 → D'.1 51 j = if j < k then vq_ D n sz w p j else 0) → (∀ j, j < k → kn_ D n sz w p j) → pu_h74_53 X (69 + 2 * n) (nu_i w) (nu_i k) D' P := by
  obtain ⟨s1, s2, s3⟩ := sv_ hn
  obtain ⟨b1, b4, bs⟩ := nb_4 hw
  intro r
  induction r with
  | zero =>
    intro k D' hk hf ha hC h1 hv hkn
    have hk2 : k = nb_ w := by omega
    subst hk2
    refine pu_u74_53 s2 ?_
    rw [nu_in (by omega), nu_ix (by omega), bs, if_neg (nu_ltx (by omega) (Nat.lt_irrefl _))]
    refine ⟨hw, sp_48 (n := n) (sz := sz) (p := p) hC hw hroom hW (fun j hj => ?_) fun D2 hC2 ha2 => ?_⟩
    · rw [nv_ag ha.2, hv j hj]
      by_cases hjk : j < nb_ w
      · rw [if_pos hjk]; exact (nv_e hw hjk (hkn j hjk)).1
      · rw [if_neg hjk, nv_0 hjk]; rfl
    · rw [iz_ag ha.2] at hC2
      refine H1 D2 hf (ag_tr ha (ag_mo ha2 fun q j z => by unfold cz_; omega)) hC2 ?_
      rw [ha2.1 _ _ (by omega)]; exact h1
  | succ r ih =>
    intro k D' hk hf ha hC h1 hv hkn
    have hpq := pq_le (D := D) (n := n) (sz := sz) (p := p) hw k
    have hr' : ro_ D' n so sz := ro_ag hn h ha cz_sh
    refine pu_u74_53 s2 ?_
    rw [nu_in (by omega), nu_ix (by omega), bs, if_pos (nu_ltp (by omega) (show k < nb_ w by omega))]
    refine ⟨hw, ?_⟩
    rw [h1, sp_40g hn hr' (by omega), jv_ag ha.2]
    by_cases c1 : kb_ D n sz w p k
    · rw [if_pos c1, h1, nu_addn]
      generalize hE : pu_wi D' 50 1 (nu_i (pq_ D n sz w p k + 1)) = E at *
      have aE : ag_ (fun q j => q = 50 ∧ j = 1) D' E := by rw [← hE]; exact ag_wi (ag_rf D') ⟨rfl, rfl⟩
      have e1 : E.1 50 1 = nu_i (pq_ D n sz w p k + 1) := by rw [← hE]; exact wi_eq
      have e2 : E.2 = D.2 := aE.2.trans ha.2
      have haE : ag_ cz_ D E := ag_tr ha (ag_mo aE fun q j z => by unfold cz_; omega)
      refine sp_77 hn (ro_ag hn hr' aE fun q j z => by omega) (by omega) hw (by omega) e1 (fun hc => ?_) (fun hc1 hc2 => ?_)
      · rw [dn_ag e2, vi_ag e2] at hc
        rw [if_pos rfl, e1]
        have c2 : ¬ kn_ D n sz w p k := fun z => hc.elim z.1 (fun y => y z.2)
        exact H0 _ E (hf.trans (nf_s.2.1 c1 c2)) haE
      · rw [dn_ag e2] at hc1 hc2 ⊢
        rw [vi_ag e2] at hc2 ⊢
        have c2 : kn_ D n sz w p k := ⟨hc1, hc2⟩
        rw [if_neg (by decide), nu_addn]
        refine ih (k + 1) _ (by omega) (hf.trans (nf_s.2.2 c1 c2)) (ag_wi (ag_wi haE ?_) ?_) ?_ ?_ (fun j hj => ?_) (fun j hj => ?_)
        · unfold cz_; omega
        · unfold cz_; omega
        · exact re_Cag (re_Cag hC aE (fun q j x y z => by omega)) (ag_wi (Z := fun q j => q = 51 ∨ q = 50) (ag_wi (ag_rf E) (Or.inl rfl)) (Or.inr rfl)) (fun q j x y z => by omega)
        · rw [wi_eq]; rfl
        · rw [wi_q (by omega)]
          by_cases e : j = k
          · subst e; rw [wi_eq, if_pos (by omega)]; rfl
          · rw [wi_j e, aE.1 _ _ (by omega), hv j hj]
            by_cases e3 : j < k
            · rw [if_pos e3, if_pos (by omega)]
            · rw [if_neg e3, if_neg (by omega)]
        · by_cases e : j = k
          · subst e; exact c2
          · exact hkn j (by omega)
    · rw [if_neg c1, h1]
      exact H0 _ D' (hf.trans (nf_s.1 c1)) ha
theorem sp_74 {n so sz p : Nat} {P : Int32 → pu_D → Prop} (hW : wf_ S) (hC : re_C 17 S D) (hn : n < 8) (h : ro_ D n so sz) (hp : p ≤ 120) (h0 : D.1 50 1 = nu_i p) (H0 : ∀ q D', ie_ D n sz S p = some q → q ≤ 150 → ag_ cz_ D D' → P (nu_i q) D') (H1 : ∀ D', ie_ D n sz S p = none → ag_ cz_ D D' → re_C 17 (is_ D n sz S p) D' → D'.1 50 1 = nu_i (iq_ D n sz p) → P (-1) D') : pu_I X 74 [.ref 50, .ref (69 + 2 * n), .ref 17] D P := by
  obtain ⟨s1, s2, s3⟩ := sv_ hn
  refine pu_e74 s2 ?_
  refine sp_75 hn h (by omega) h0 (fun w D2 hw hs hj ha h1 => ?_) (fun D2 hj ha h1 => ?_)
  · have hww := ww_f hw hs
    have hC2 : re_C 17 S D2 := re_Cag hC ha (fun q j x y z => by omega)
    rw [rw_f hw hs] at h1
    rw [if_neg (by rw [nu_lt0 (by omega)]; exact fun z => z), if_pos (show nu_i w < (11 : Int32) from nu_ltp (b := 11) (by omega) hw), sp_47 hW hC2 hw]
    by_cases hroom : w < 4 ∨ ¬ S 8 0 (w - 4) = mo_ (w - 4)
    · have hie : ie_ D n sz S p = nf_ D n sz w p (nb_ w) 0 := by
        unfold ie_
        rw [hww, if_neg (by omega), if_pos hroom]
      rw [nu_bT hroom, if_neg (by decide)]
      refine sp_258 fun D3 ha3 hz => ?_
      have ha13 : ag_ cz_ D D3 := ag_tr (ag_mo ha fun q j z => Or.inl z) (ag_mo ha3 fun q j z => Or.inr (Or.inl z))
      refine sp_74L (S := S) hn h hp hw hW hroom (fun q D' hq hq2 => ?_) (fun D' hq ha4 hC4 h4 => ?_) (nb_ w) 0 D3 (Nat.zero_add _) rfl ha13 (re_Cag hC2 ha3 (fun q j x y z => by omega)) ?_ (fun j hj => ?_) (fun j hj => absurd hj (Nat.not_lt_zero _))
      · have := nf_le hw (nb_ w) 0 q (by have := nb_4 hw; omega) hq
        exact H0 q D' (hie.trans hq) (by omega) hq2
      · refine H1 D' (hie.trans hq) ha4 ?_ ?_
        · unfold is_; rw [hww]; exact hC4
        · unfold iq_; rw [hww]; exact h4
      · rw [ha3.1 _ _ (by omega)]; exact h1
      · rw [if_neg (by omega)]; exact hz j hj
    · rw [nu_bF hroom, if_pos rfl, h0]
      refine H0 p D2 ?_ (by omega) (ag_mo ha fun q j z => Or.inl z)
      unfold ie_
      rw [hww, if_neg (by omega), if_neg hroom]
  · rw [if_pos (by decide), h1]
    have := rw_le (D := D) (n := n) (sz := sz) (p := p) 11 (Nat.le_refl 11)
    refine H0 _ D2 ?_ (by omega) (ag_mo ha fun q j z => Or.inl z)
    unfold ie_
    rw [ww_0 hj, if_pos rfl]
end WD
