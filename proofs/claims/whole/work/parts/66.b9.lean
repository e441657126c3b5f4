/-! A ROW READ by the class. -/
/-- the row read from p on: where it is wrong, the street, how many items -/
def rd_ (D : pu_D) (n sz : Nat) : Nat → (Nat → Nat → Nat → Nat) → Nat → Nat → Option Nat × (Nat → Nat → Nat → Nat) × Nat
  | 0, S, _, c => (some 0, S, c)
  | f + 1, S, p, c => if ie_ D n sz S p = none then
      (if sz ≤ iq_ D n sz p then (none, is_ D n sz S p, c + 1)
       else if jv_ D n sz (iq_ D n sz p) = 59 then rd_ D n sz f (is_ D n sz S p) (iq_ D n sz p + 1) (c + 1)
       else (some (iq_ D n sz p), is_ D n sz S p, c + 1))
    else (ie_ D n sz S p, S, c)
section WD
variable {X : px_X} {S : Nat → Nat → Nat → Nat} {D : pu_D}
theorem rd_s {n sz f p c : Nat} : rd_ D n sz (f + 1) S p c = if ie_ D n sz S p = none then
      (if sz ≤ iq_ D n sz p then (none, is_ D n sz S p, c + 1)
       else if jv_ D n sz (iq_ D n sz p) = 59 then rd_ D n sz f (is_ D n sz S p) (iq_ D n sz p + 1) (c + 1)
       else (some (iq_ D n sz p), is_ D n sz S p, c + 1))
    else (ie_ D n sz S p, S, c) := rfl
theorem ww_lt {n sz p : Nat} (h : ie_ D n sz S p = none) : wq_ D n sz p < 11 ∧ (wq_ D n sz p < 4 ∨ ¬ S 8 0 (wq_ D n sz p - 4) = mo_ (wq_ D n sz p - 4)) ∧ nf_ D n sz (wq_ D n sz p) p (nb_ (wq_ D n sz p)) 0 = none := by
  have h1 : wq_ D n sz p ≤ 11 := fi_le _ _
  unfold ie_ at h
  split at h
  · cases h
  · split at h
    · rename_i h2 h3; exact ⟨by omega, h3, h⟩
    · cases h
theorem nf_k {n sz w p : Nat} : ∀ r k, nf_ D n sz w p r k = none → ∀ j, k ≤ j → j < k + r → kb_ D n sz w p j ∧ kn_ D n sz w p j
  | 0, _, _ => fun j h1 h2 => by omega
  | r + 1, k, h => by
    intro j h1 h2
    by_cases c1 : kb_ D n sz w p k
    · by_cases c2 : kn_ D n sz w p k
      · by_cases e : j = k
        · subst e; exact ⟨c1, c2⟩
        · exact nf_k r (k + 1) ((nf_s.2.2 c1 c2).symm.trans h) j (by omega) (by omega)
      · have := (nf_s.2.1 c1 c2).symm.trans h; cases this
    · have := (nf_s.1 c1).symm.trans h; cases this
theorem wf_iz {n sz w p : Nat} (hW : wf_ S) (hw : w < 11) (hroom : w < 4 ∨ ¬ S 8 0 (w - 4) = mo_ (w - 4)) (h : nf_ D n sz w p (nb_ w) 0 = none) : wf_ (iz_ D n sz S w p) := by
  have hk : ∀ k, k < nb_ w → bl_ (w * 4 + k) ≤ nv_ D n sz w p k ∧ nv_ D n sz w p k ≤ bh_ (w * 4 + k) := fun k hk => (nv_e hw hk (nf_k (nb_ w) 0 h k (Nat.zero_le _) (by omega)).2).2
  unfold iz_
  by_cases h4 : w < 4
  · rw [if_pos h4]
    have := nb_4 hw
    exact wf_cgm hW h4 (hk 0 (by omega)).1 (hk 0 (by omega)).2
  · rw [if_neg h4]
    have hlt : S 8 0 (w - 4) < mo_ (w - 4) := by
      have := hW.1 (w - 4) (by omega)
      rcases hroom with z | z
      · exact absurd z h4
      · omega
    refine wf_ad hW (by omega) hlt ?_
    rcases (show w = 4 ∨ w = 5 ∨ w = 6 ∨ w = 7 ∨ w = 8 ∨ w = 9 ∨ w = 10 by omega) with rfl | rfl | rfl | rfl | rfl | rfl | rfl
    · have k0 := hk 0 (by decide)
      have k1 := hk 1 (by decide)
      have k2 := hk 2 (by decide)
      have k3 := hk 3 (by decide)
      exact ⟨fun _ => ⟨k0, k1, k2.2, k3⟩, fun z => by omega, fun z => by omega, fun z => by omega, fun z => by omega⟩
    · have k0 : _ ≤ 119 := (hk 0 (by decide)).2
      have k1 := hk 1 (by decide)
      exact ⟨fun z => by omega, fun _ => ⟨by omega, k1.2, by rw [nv_0 (by decide)]; exact Nat.zero_le _, by rw [nv_0 (by decide)]; exact Nat.zero_le _⟩, fun z => by omega, fun z => by omega, fun z => by omega⟩
    · have k0 : _ ≤ 119 := (hk 0 (by decide)).2
      exact ⟨fun z => by omega, fun z => by omega, fun _ => by omega, fun z => by omega, fun z => by omega⟩
    · have k0 : _ ≤ 119 := (hk 0 (by decide)).2
      exact ⟨fun z => by omega, fun z => by omega, fun _ => by omega, fun z => by omega, fun z => by omega⟩
    · have k0 : _ ≤ 119 := (hk 0 (by decide)).2
      have k1 := hk 1 (by decide)
      exact ⟨fun z => by omega, fun z => by omega, fun _ => by omega, fun _ => k1.2, fun z => by omega⟩
    · have k0 : _ ≤ 119 := (hk 0 (by decide)).2
      have k1 := hk 1 (by decide)
      have k2 := hk 2 (by decide)
      exact ⟨fun z => by omega, fun z => by omega, fun _ => by omega, fun z => by omega, fun _ => ⟨k1, k2.2⟩⟩
    · have k0 : _ ≤ 119 := (hk 0 (by decide)).2
      exact ⟨fun z => by omega, fun z => by omega, fun _ => by omega, fun z => by omega, fun z => by omega⟩
theorem wf_is {n sz p : Nat} (hW : wf_ S) (h : ie_ D n sz S p = none) : wf_ (is_ D n sz S p) := by
  obtain ⟨h1, h2, h3⟩ := ww_lt h
  exact wf_iz hW h1 h2 h3
theorem ip_le {n sz p : Nat} (h : ie_ D n sz S p = none) : p + 5 ≤ iq_ D n sz p ∧ iq_ D n sz p ≤ p + 22 := by
  obtain ⟨h1, h2, h3⟩ := ww_lt h
  have h4 := nb_4 h1
  have h5 := pq_le (D := D) (n := n) (sz := sz) (p := p) h1 (nb_ (wq_ D n sz p))
  unfold iq_; omega
theorem fi_ag {b c : Nat → Bool} {n : Nat} (h : b = c) : fi_ b n = fi_ c n := by rw [h]
theorem wq_ag {D' : pu_D} {n sz p : Nat} (h : D'.2 = D.2) : wq_ D' n sz p = wq_ D n sz p := by
  unfold wq_
  exact fi_ag (funext fun w => by rw [sl_ag h])
theorem rw_0 {n sz p : Nat} : rw_ D n sz p 0 = p := rfl
theorem rw_ag {D' : pu_D} {n sz p : Nat} (h : D'.2 = D.2) (w : Nat) : rw_ D' n sz p w = rw_ D n sz p w := by
  induction w with
  | zero => rw [rw_0, rw_0]
  | succ w ih => rw [rw_s, rw_s, ih, sl_ag h]
theorem nf_0 {n sz w p k : Nat} : nf_ D n sz w p 0 k = none := rfl
theorem kn_ag {D' : pu_D} {n sz w p k : Nat} (h : D'.2 = D.2) : (kb_ D' n sz w p k ↔ kb_ D n sz w p k) ∧ (kn_ D' n sz w p k ↔ kn_ D n sz w p k) := by
  unfold kb_ kn_
  rw [(vq_ag h k).1, (vq_ag h k).2, dn_ag h, jv_ag h]
  exact ⟨Iff.rfl, Iff.rfl⟩
theorem nf_ag {D' : pu_D} {n sz w p : Nat} (h : D'.2 = D.2) (r : Nat) : ∀ k, nf_ D' n sz w p r k = nf_ D n sz w p r k := by
  induction r with
  | zero => exact fun k => by rw [nf_0, nf_0]
  | succ r ih =>
    intro k
    obtain ⟨e5, e6⟩ := kn_ag (D := D) (D' := D') (n := n) (sz := sz) (w := w) (p := p) (k := k) h
    by_cases c1 : kb_ D n sz w p k
    · have c1' : kb_ D' n sz w p k := e5.mpr c1
      by_cases c2 : kn_ D n sz w p k
      · rw [nf_s.2.2 c1 c2, nf_s.2.2 c1' (e6.mpr c2), ih]
      · rw [nf_s.2.1 c1 c2, nf_s.2.1 c1' (fun z => c2 (e6.mp z)), (vq_ag h k).1]
    · rw [nf_s.1 c1, nf_s.1 (fun z => c1 (e5.mp z)), (vq_ag h k).1]
theorem ie_ag {D' : pu_D} {n sz p : Nat} (h : D'.2 = D.2) : ie_ D' n sz S p = ie_ D n sz S p ∧ is_ D' n sz S p = is_ D n sz S p ∧ iq_ D' n sz p = iq_ D n sz p := by
  refine ⟨?_, ?_, ?_⟩
  · unfold ie_; rw [wq_ag h, rw_ag h, nf_ag h]
  · unfold is_; rw [wq_ag h]; exact iz_ag h
  · unfold iq_; rw [wq_ag h]; exact (vq_ag h _).1
/-- what reading a row may change in the class -/
def cy_ (q j : Nat) : Prop := (q = 50 ∧ 1 ≤ j) ∨ q = 51 ∨ (18 ≤ q ∧ q ≤ 32 ∧ ¬ (j = 0 ∧ q % 2 = 1))
theorem cy_sh : ∀ q j, cy_ q j → ¬ (69 ≤ q ∧ q ≤ 84) ∧ ¬ (103 ≤ q ∧ q ≤ 108) := fun q j h => by unfold cy_ at h; omega
theorem sp_73L {n so sz : Nat} {P : Int32 → pu_D → Prop} (hn : n < 8) (h : ro_ D n so sz) (H0 : ∀ q S' c D', rd_ D n sz (sz + 1) S 0 0 = (some q, S', c) → q ≤ 150 → ag_ cy_ D D' → P (nu_i q) D') (H1 : ∀ S' c D', rd_ D n sz (sz + 1) S 0 0 = (none, S', c) → wf_ S' → ag_ cy_ D D' → re_C 17 S' D' → D'.1 50 2 = nu_i c → P (-1) D') : ∀ (f : Nat) (S2 : Nat → Nat → Nat → Nat) (p c : Nat) (D' : pu_D), sz < p + f → p ≤ sz → c ≤ p → rd_ D n sz (sz + 1) S 0 0 = rd_ D n sz f S2 p c → wf_ S2 → ag_ cy_ D D' → re_C 17 S2 D' → D'.1 50 1 = nu_i p → D'.1 50 2 = nu_i c → pu_h73_12 X (69 + 2 * n) (nu_i c) D' P := by
  obtain ⟨s1, s2, s3⟩ := sv_ hn
  have hsz : sz ≤ 120 := h.2.1
  intro f
  induction f with
  | zero => intro S2 p c D' h1 h2; omega
  | succ f ih =>
    intro S2 p c D' hf hp hc hrd hW ha hC h1 h2
    have hr' : ro_ D' n so sz := ro_ag hn h ha cy_sh
    have hr2 := hr'.2.2.2.2.2.2.1
    obtain ⟨g1, g2, g3⟩ := ie_ag (S := S2) (n := n) (sz := sz) (p := p) ha.2
    refine pu_u73_12 s2 ?_
    rw [hr2, if_neg (nu_ltx (by omega) (show ¬ sz < c by omega))]
    rw [rd_s (f := f)] at hrd
    refine sp_74 hW hC hn hr' (by omega) h1 (fun q D2 hq hq2 ha2 => ?_) (fun D2 hq ha2 hC2 h12 => ?_)
    · rw [g1] at hq
      rw [if_neg (by rw [hq]; exact fun z => by cases z), hq] at hrd
      rw [if_neg (show ¬ nu_i q = -1 by rw [nu_m1 (by omega)]; exact fun z => z)]
      exact H0 q _ _ D2 hrd hq2 (ag_tr ha (ag_mo ha2 fun q j z => by unfold cz_ at z; unfold cy_; omega))
    · rw [g1] at hq
      rw [g2] at hC2
      rw [g3] at h12
      have hip := ip_le hq
      rw [if_pos hq] at hrd
      have h22 : D2.1 50 2 = nu_i c := by rw [ha2.1 _ _ (by unfold cz_; omega)]; exact h2
      rw [if_pos rfl, h22, nu_addn]
      generalize hE : pu_wi D2 50 2 (nu_i (c + 1)) = E at *
      have aE : ag_ (fun q j => q = 50 ∧ j = 2) D2 E := by rw [← hE]; exact ag_wi (ag_rf D2) ⟨rfl, rfl⟩
      have aDE : ag_ cy_ D E := ag_tr (ag_tr ha (ag_mo ha2 fun q j z => by unfold cz_ at z; unfold cy_; omega)) (ag_mo aE fun q j z => by unfold cy_; omega)
      have hrE : ro_ E n so sz := ro_ag hn h aDE cy_sh
      have e1 : E.1 50 1 = nu_i (iq_ D n sz p) := by rw [aE.1 _ _ (by omega)]; exact h12
      have e2 : E.1 50 2 = nu_i (c + 1) := by rw [← hE]; exact wi_eq
      have e3 : E.1 (69 + 2 * n) 2 = nu_i sz := hrE.2.2.2.2.2.2.1
      have hCE : re_C 17 (is_ D n sz S2 p) E := re_Cag hC2 aE (fun q j x y z => by omega)
      have hW2 : wf_ (is_ D n sz S2 p) := wf_is hW hq
      rw [e1, e3]
      by_cases c1 : sz ≤ iq_ D n sz p
      · rw [if_pos c1] at hrd
        rw [if_neg (nu_ltx (by omega) (by omega))]
        exact H1 _ _ E hrd hW2 aDE hCE e2
      · rw [if_neg c1] at hrd
        rw [if_pos (nu_ltp (by omega) (by omega)), sp_40g hn hrE (by omega), jv_ag aDE.2, e1]
        by_cases c2 : jv_ D n sz (iq_ D n sz p) = 59
        · rw [if_pos c2] at hrd
          rw [if_pos c2, nu_addn]
          refine ih _ (iq_ D n sz p + 1) (c + 1) _ (by omega) (by omega) (by omega) hrd hW2 (ag_wi aDE (by unfold cy_; omega)) ?_ wi_eq ?_
          · exact re_Cag hCE (ag_wi (Z := fun q _ => q = 50) (ag_rf E) rfl) (fun q j x y z => by omega)
          · rw [wi_j (by omega)]; exact e2
        · rw [if_neg c2] at hrd
          rw [if_neg c2]
          exact H0 _ _ _ E hrd (by omega) aDE
theorem sp_73 {n so sz : Nat} {P : Int32 → pu_D → Prop} (hW : wf_ S) (hC : re_C 17 S D) (hn : n < 8) (h : ro_ D n so sz) (H0 : ∀ q S' c D', rd_ D n sz (sz + 1) S 0 0 = (some q, S', c) → q ≤ 150 → ag_ cy_ D D' → P (nu_i q) D') (H1 : ∀ S' c D', rd_ D n sz (sz + 1) S 0 0 = (none, S', c) → wf_ S' → ag_ cy_ D D' → re_C 17 S' D' → D'.1 50 2 = nu_i c → P (-1) D') : pu_I X 73 [.ref 50, .ref (69 + 2 * n), .ref 17] D P := by
  obtain ⟨s1, s2, s3⟩ := sv_ hn
  refine pu_e73 s2 ?_
  refine sp_73L hn h H0 H1 (sz + 1) S 0 0 _ (by omega) (Nat.zero_le _) (Nat.le_refl _) rfl hW (ag_wi (ag_wi (ag_rf D) ?_) ?_) ?_ ?_ ?_
  · unfold cy_; omega
  · unfold cy_; omega
  · exact re_Cag hC (ag_wi (Z := fun q _ => q = 50) (ag_wi (ag_rf D) rfl) rfl) (fun q j x y z => by omega)
  · rw [wi_j (by omega), wi_eq]; rfl
  · rw [wi_eq]; rfl
end WD
