/-! AN ITEM READ by the reference. -/
/-- what a number's reading may change in the reference; what an item's -/
def mz_ (q j : Nat) : Prop := q = 85 ∧ (j = 38 ∨ j = 40 ∨ j = 41)
def my_ (q j : Nat) : Prop := (q = 85 ∧ (j ≤ 10 ∨ j = 38 ∨ j = 40 ∨ j = 41)) ∨ (87 ≤ q ∧ q ≤ 102)
section WD
variable {X : px_X} {S : Nat → Nat → Nat → Nat} {D : pu_D}
theorem mz_zm : zm_ mz_ := fun q j h => by unfold mz_ at h; omega
theorem mz_my {D' : pu_D} (h : ag_ mz_ D D') : ag_ my_ D D' := ag_mo h fun q j z => by unfold mz_ at z; unfold my_; omega
theorem mp_186k {D0 : pu_D} {n sz w p r k : Nat} {P : Int32 → pu_D → Prop} (hn : n < 8) (hs : sz ≤ 120) (hp : p ≤ 120) (hw : w < 11) (hk : k < nb_ w) (h2 : D.2 = D0.2) (hkb : kb_ D0 n sz w p k) (h : ps_ D n sz (pq_ D0 n sz w p k + 1)) (H0 : ∀ q D', nf_ D0 n sz w p (r + 1) k = some q → ag_ mz_ D D' → D'.1 85 41 = nu_i q → P 0 D') (H1 : ∀ D', nf_ D0 n sz w p (r + 1) k = nf_ D0 n sz w p r (k + 1) → ag_ mz_ D D' → ps_ D' n sz (pq_ D0 n sz w p (k + 1)) → D'.1 85 40 = nu_i (nv_ D0 n sz w p k) → P 1 D') : pu_I X 186 [.ref 85, .int (nu_i (bl_ (w * 4 + k))), .int (nu_i (bh_ (w * 4 + k)))] D P := by
  have hpq := pq_le (D := D0) (n := n) (sz := sz) (p := p) hw k
  have hb4 := nb_4 hw
  refine mp_186 hn hs (by omega) h (fun D' hc ha h41 => ?_) (fun D' c1 c2 c3 ha hps h40 => ?_)
  · rw [dn_ag h2, vi_ag h2] at hc
    have c2 : ¬ kn_ D0 n sz w p k := fun z => by
      rcases hc with y | y | y
      · exact z.1 y
      · exact z.2.1 y
      · exact z.2.2 y
    exact H0 _ D' (nf_s.2.1 hkb c2) ha h41
  · rw [dn_ag h2] at c1 c2 c3 hps h40
    rw [vi_ag h2] at c2 c3 h40
    have c : kn_ D0 n sz w p k := ⟨c1, c2, c3⟩
    refine H1 D' (nf_s.2.2 hkb c) (ag_mo ha fun q j z => by unfold mz_; omega) hps ?_
    rw [h40]; exact (nv_e hw hk c).1
theorem mp_187k {D0 : pu_D} {n sz w p r k : Nat} {P : Int32 → pu_D → Prop} (hn : n < 8) (hs : sz ≤ 120) (hp : p ≤ 120) (hw : w < 11) (hk : k < nb_ w) (h2 : D.2 = D0.2) (h : ps_ D n sz (pq_ D0 n sz w p k)) (H0 : ∀ q D', nf_ D0 n sz w p (r + 1) k = some q → ag_ mz_ D D' → D'.1 85 41 = nu_i q → P 0 D') (H1 : ∀ D', nf_ D0 n sz w p (r + 1) k = nf_ D0 n sz w p r (k + 1) → ag_ mz_ D D' → ps_ D' n sz (pq_ D0 n sz w p (k + 1)) → D'.1 85 40 = nu_i (nv_ D0 n sz w p k) → P 1 D') : pu_I X 187 [.ref 85, .int (nu_i (bl_ (w * 4 + k))), .int (nu_i (bh_ (w * 4 + k)))] D P := by
  have hpq := pq_le (D := D0) (n := n) (sz := sz) (p := p) hw k
  have hb4 := nb_4 hw
  refine mp_187 hn hs (by omega) h (fun D' hb ha h41 => ?_) (fun D' hb hc ha h41 => ?_) (fun D' hb c1 c2 c3 ha hps h40 => ?_)
  · rw [jv_ag h2] at hb
    exact H0 _ D' (nf_s.1 hb) ha h41
  · rw [jv_ag h2] at hb
    rw [dn_ag h2, vi_ag h2] at hc
    have c2 : ¬ kn_ D0 n sz w p k := fun z => by
      rcases hc with y | y | y
      · exact z.1 y
      · exact z.2.1 y
      · exact z.2.2 y
    exact H0 _ D' (nf_s.2.1 hb c2) ha h41
  · rw [jv_ag h2] at hb
    rw [dn_ag h2] at c1 c2 c3 hps h40
    rw [vi_ag h2] at c2 c3 h40
    have c : kn_ D0 n sz w p k := ⟨c1, c2, c3⟩
    refine H1 D' (nf_s.2.2 hb c) (ag_mo ha fun q j z => by unfold mz_; omega) hps ?_
    rw [h40]; exact (nv_e hw hk c).1
/-- what an item must bring about -/
def hi_ (D : pu_D) (n sz : Nat) (S : Nat → Nat → Nat → Nat) (p : Nat) (P : Int32 → pu_D → Prop) : Prop := (∀ q D', ie_ D n sz S p = some q → ag_ mz_ D D' → D'.1 85 41 = nu_i q → P 0 D') ∧ ∀ D', ie_ D n sz S p = none → ag_ my_ D D' → re_M (is_ D n sz S p) D' → ps_ D' n sz (iq_ D n sz p) → P 1 D'
theorem mp_190a {n sz w p : Nat} {P : Int32 → pu_D → Prop} {vals : Nat → Int32} {D1 D2 : pu_D} (H : hi_ D n sz S p P) (hM : re_M S D) (hw : w < 11) (h4 : 4 ≤ w) (hww : wq_ D n sz p = w) (hie : ie_ D n sz S p = nf_ D n sz w p 0 (nb_ w)) (ha : ag_ mz_ D D1) (hps : ps_ D1 n sz (pq_ D n sz w p (nb_ w))) (hm : ma_ (w - 4) (S 8 0 (w - 4)) vals D1 D2) (hv : ∀ j, j < wd_ (w - 4) → vals j = en_ (w - 4) j (nv_ D n sz w p j)) : P 1 D2 := by
  have hM1 : re_M S D1 := rm_ag hM ha mz_zm
  have hM2 := rm_ad (r := nv_ D n sz w p) (show w - 4 < 7 by omega) hM1 hv hm
  have hcb := cm_b (t := w - 4) (by omega)
  refine H.2 D2 hie (ag_tr (mz_my ha) (ag_mo hm.2.2 fun q j z => by unfold my_; omega)) ?_ ?_
  · unfold is_ iz_; rw [hww, if_neg (by omega)]; exact hM2
  · unfold iq_; rw [hww]
    exact ⟨by rw [hm.2.2.1 _ _ (by omega)]; exact hps.1, by rw [hm.2.2.1 _ _ (by omega)]; exact hps.2.1, by rw [hm.2.2.1 _ _ (by omega)]; exact hps.2.2⟩
theorem mp_190m {n sz w p : Nat} {P : Int32 → pu_D → Prop} (H : hi_ D n sz S p P) (hM : re_M S D) (hn : n < 8) (hs : sz ≤ 120) (hp : p ≤ 120) (hw : w < 4) (hww : wq_ D n sz p = w) (hie : ie_ D n sz S p = nf_ D n sz w p 1 0) (hkb : kb_ D n sz w p 0) (h : ps_ D n sz p) : pu_I X 186 [.ref 85, .int (nu_i (bl_ (w * 4 + 0))), .int (nu_i (bh_ (w * 4 + 0)))] (pu_wi D 85 38 (nu_i (pq_ D n sz w p 0 + 1))) (fun y D' => if y = 0 then P 0 D' else pu_I X 181 [.ref 85, .int (nu_i w), .int (D'.1 85 40)] D' (fun _ D2 => P 1 D2)) := by
  have hb4 := nb_4 (show w < 11 by omega)
  have hb1 : nb_ w = 1 := by
    rcases (show w = 0 ∨ w = 1 ∨ w = 2 ∨ w = 3 by omega) with rfl | rfl | rfl | rfl <;> rfl
  have a0 : ag_ mz_ D (pu_wi D 85 38 (nu_i (pq_ D n sz w p 0 + 1))) := ag_wi (ag_rf D) (by unfold mz_; omega)
  have ps0 : ps_ (pu_wi D 85 38 (nu_i (pq_ D n sz w p 0 + 1))) n sz (pq_ D n sz w p 0 + 1) := ⟨by rw [wi_j (by omega)]; exact h.1, wi_eq, by rw [wi_j (by omega)]; exact h.2.2⟩
  refine mp_186k (D0 := D) (r := 0) hn hs hp (by omega) (by omega) a0.2 hkb ps0 (fun q D' hq ha h41 => ?_) (fun D' hq ha hps h40 => ?_)
  · rw [if_pos rfl]; exact H.1 q D' (hie.trans hq) (ag_tr a0 ha) h41
  · rw [if_neg (by decide), mp_181 hw, h40]
    have a1 : ag_ mz_ D D' := ag_tr a0 ha
    refine H.2 _ (hie.trans hq) (ag_wi (mz_my a1) (by unfold my_; omega)) ?_ ?_
    · unfold is_ iz_; rw [hww, if_pos hw]; exact rm_cm (rm_ag hM a1 mz_zm)
    · unfold iq_; rw [hww, hb1]
      exact ⟨by rw [wi_j (by omega)]; exact hps.1, by rw [wi_j (by omega)]; exact hps.2.1, by rw [wi_j (by omega)]; exact hps.2.2⟩
theorem en_n {t w a : Nat} (h : ¬ (t = 1 ∧ w = 2)) : en_ t w a = nu_i a := if_neg h
theorem mp_184v {n sz p v : Nat} {P : Int32 → pu_D → Prop} (hn : n < 8) (hs : sz ≤ 120) (hp : p ≤ 120) (h : ps_ D n sz p) (hw : h110 D) (hv : v < 11) (hww : wq_ D n sz p = mv_ v) (hkb : kb_ D n sz (mv_ v) p 0) (H : P (nu_i v) (pu_wi D 85 38 (nu_i (pq_ D n sz (mv_ v) p 0 + 1)))) : pu_I X 184 [.ref 85] D P := by
  have o1 := (of_h hv).1
  refine mp_184 hn hs (by omega) h hw (fun z => ?_) (fun u hu hwu hbu => ?_) (fun u hu hwu hbu => ?_)
  · rw [hww] at z; omega
  · rw [hww] at hwu
    rw [← hwu] at hbu
    exact absurd hkb hbu
  · rw [hww] at hwu
    have e := mv_i hv hu hwu
    subst e
    exact H
theorem ie_w {n sz p w : Nat} (hw2 : w < 11) (hww : wq_ D n sz p = w) (hr : w < 4 ∨ ¬ S 8 0 (w - 4) = mo_ (w - 4)) : ie_ D n sz S p = nf_ D n sz w p (nb_ w) 0 := by
  unfold ie_
  rw [hww, if_neg (by omega), if_pos hr]
theorem ps_0 {n sz p x : Nat} (h : ps_ D n sz p) : ps_ (pu_wi D 85 38 (nu_i x)) n sz x := ⟨by rw [wi_j (by omega)]; exact h.1, wi_eq, by rw [wi_j (by omega)]; exact h.2.2⟩
theorem nu_nmo {t m x : Nat} (h : D.1 85 t = nu_i x) (hx : x ≤ 100) (hm : m ≤ 100) (hne : ¬ x = m) : ¬ D.1 85 t = nu_i m := by rw [h, nu_eq (by omega) (by omega)]; exact hne
theorem mp_190_0 {n sz p : Nat} {P : Int32 → pu_D → Prop} (H : hi_ D n sz S p P) (hW : wf_ S) (hM : re_M S D) (hn : n < 8) (hs : sz ≤ 120) (hp : p ≤ 120) (h : ps_ D n sz p) (hw : h110 D) (hww : wq_ D n sz p = 0) (hkb : kb_ D n sz 0 p 0) : pu_h190_2 X 11 D P := by
      have hie := ie_w (S := S) (by omega) hww (Or.inl (by omega))
      refine pu_u190_2 ?_
      rw [if_neg (show ¬ (11 : Int32) < 11 by decide)]
      refine mp_184v (v := 0) hn hs hp h hw (by omega) hww hkb ?_
      rw [show mv_ 0 = 0 from rfl]
      rw [if_neg (show ¬ nu_i 0 = (-1 : Int32) by decide), if_pos (show nu_i 0 < (4 : Int32) by decide), if_pos (show nu_i 0 = (0 : Int32) by decide), if_pos (show nu_i 0 = (0 : Int32) by decide)]
      exact mp_190m (w := 0) H hM hn hs hp (by omega) hww hie hkb h
theorem mp_190_1 {n sz p : Nat} {P : Int32 → pu_D → Prop} (H : hi_ D n sz S p P) (hW : wf_ S) (hM : re_M S D) (hn : n < 8) (hs : sz ≤ 120) (hp : p ≤ 120) (h : ps_ D n sz p) (hw : h110 D) (hww : wq_ D n sz p = 1) (hkb : kb_ D n sz 1 p 0) : pu_h190_2 X 11 D P := by
      have hie := ie_w (S := S) (by omega) hww (Or.inl (by omega))
      refine pu_u190_2 ?_
      rw [if_neg (show ¬ (11 : Int32) < 11 by decide)]
      refine mp_184v (v := 1) hn hs hp h hw (by omega) hww hkb ?_
      rw [show mv_ 1 = 1 from rfl]
      rw [if_neg (show ¬ nu_i 1 = (-1 : Int32) by decide), if_pos (show nu_i 1 < (4 : Int32) by decide), if_neg (show ¬ nu_i 1 = (0 : Int32) by decide), if_neg (show ¬ nu_i 1 = (0 : Int32) by decide), if_pos (show nu_i 1 = (1 : Int32) by decide)]
      exact mp_190m (w := 1) H hM hn hs hp (by omega) hww hie hkb h
theorem mp_190_2 {n sz p : Nat} {P : Int32 → pu_D → Prop} (H : hi_ D n sz S p P) (hW : wf_ S) (hM : re_M S D) (hn : n < 8) (hs : sz ≤ 120) (hp : p ≤ 120) (h : ps_ D n sz p) (hw : h110 D) (hww : wq_ D n sz p = 2) (hkb : kb_ D n sz 2 p 0) : pu_h190_2 X 11 D P := by
      have hie := ie_w (S := S) (by omega) hww (Or.inl (by omega))
      refine pu_u190_2 ?_
      rw [if_neg (show ¬ (11 : Int32) < 11 by decide)]
      refine mp_184v (v := 2) hn hs hp h hw (by omega) hww hkb ?_
      rw [show mv_ 2 = 2 from rfl]
      rw [if_neg (show ¬ nu_i 2 = (-1 : Int32) by decide), if_pos (show nu_i 2 < (4 : Int32) by decide), if_neg (show ¬ nu_i 2 = (0 : Int32) by decide), if_neg (show ¬ nu_i 2 = (0 : Int32) by decide), if_neg (show ¬ nu_i 2 = (1 : Int32) by decide), if_pos (show nu_i 2 = (2 : Int32) by decide)]
      exact mp_190m (w := 2) H hM hn hs hp (by omega) hww hie hkb h
theorem mp_190_3 {n sz p : Nat} {P : Int32 → pu_D → Prop} (H : hi_ D n sz S p P) (hW : wf_ S) (hM : re_M S D) (hn : n < 8) (hs : sz ≤ 120) (hp : p ≤ 120) (h : ps_ D n sz p) (hw : h110 D) (hww : wq_ D n sz p = 3) (hkb : kb_ D n sz 3 p 0) : pu_h190_2 X 11 D P := by
      have hie := ie_w (S := S) (by omega) hww (Or.inl (by omega))
      refine pu_u190_2 ?_
      rw [if_neg (show ¬ (11 : Int32) < 11 by decide)]
      refine mp_184v (v := 3) hn hs hp h hw (by omega) hww hkb ?_
      rw [show mv_ 3 = 3 from rfl]
      rw [if_neg (show ¬ nu_i 3 = (-1 : Int32) by decide), if_pos (show nu_i 3 < (4 : Int32) by decide), if_neg (show ¬ nu_i 3 = (0 : Int32) by decide), if_neg (show ¬ nu_i 3 = (0 : Int32) by decide), if_neg (show ¬ nu_i 3 = (1 : Int32) by decide), if_neg (show ¬ nu_i 3 = (2 : Int32) by decide)]
      exact mp_190m (w := 3) H hM hn hs hp (by omega) hww hie hkb h
theorem mp_190_4 {n sz p : Nat} {P : Int32 → pu_D → Prop} (H : hi_ D n sz S p P) (hW : wf_ S) (hM : re_M S D) (hn : n < 8) (hs : sz ≤ 120) (hp : p ≤ 120) (h : ps_ D n sz p) (hw : h110 D) (hww : wq_ D n sz p = 4) (hkb : kb_ D n sz 4 p 0) (hnf : ¬ S 8 0 0 = 6) : pu_h190_2 X 11 D P := by
      have hlt : S 8 0 0 < 6 := by have := wf_n hW; omega
      have hie : ie_ D n sz S p = nf_ D n sz 4 p 4 0 := ie_w (by omega) hww (Or.inr hnf)
      refine pu_u190_2 ?_
      rw [if_neg (show ¬ (11 : Int32) < 11 by decide)]
      refine mp_184v (v := 4) hn hs hp h hw (by omega) hww hkb ?_
      have a0 : ag_ mz_ D (pu_wi D 85 38 (nu_i (pq_ D n sz 4 p 0 + 1))) := ag_wi (ag_rf D) (by unfold mz_; omega)
      have ps0 : ps_ (pu_wi D 85 38 (nu_i (pq_ D n sz 4 p 0 + 1))) n sz (pq_ D n sz 4 p 0 + 1) := ps_0 h
      rw [show mv_ 4 = 4 from rfl]
      generalize pu_wi D 85 38 (nu_i (pq_ D n sz 4 p 0 + 1)) = E at *
      have eE : E.1 85 0 = nu_i (S 8 0 0) := by rw [a0.1 _ _ (by unfold mz_; omega)]; exact (hM.1 0 (by omega)).1
      have hnE : ¬ E.1 85 0 = (6 : Int32) := nu_nmo (m := 6) eE (by have := wf_n hW; omega) (by omega) hnf
      rw [if_neg (show ¬ nu_i 4 = (-1 : Int32) by decide), if_neg (show ¬ nu_i 4 < (4 : Int32) by decide), if_pos (show nu_i 4 = (4 : Int32) by decide), if_neg hnE]
      rw [if_pos (show nu_i 4 = (4 : Int32) by decide), if_pos (show nu_i 4 = (4 : Int32) by decide)]
      refine mp_186k (D0 := D) (w := 4) (k := 0) (r := 3) hn hs hp (by omega) (by decide) a0.2 hkb ps0 (fun q D' hq ha h41 => ?_) (fun D' hq ha hps h40 => ?_)
      · rw [if_pos rfl]; exact H.1 q D' (hie.trans hq) (ag_tr a0 ha) h41
      have a1 : ag_ mz_ D D' := ag_tr a0 ha
      have e85 : D'.1 85 0 = nu_i (S 8 0 0) := by rw [ha.1 _ _ (by unfold mz_; omega)]; exact eE
      rw [if_neg (by decide), if_pos (show nu_i 4 < (6 : Int32) by decide), h40]
      refine pu_u190_294 ?_
      rw [if_pos (show nu_i 4 = (4 : Int32) by decide), if_pos (show nu_i 4 = (4 : Int32) by decide)]
      refine mp_187k (D0 := D) (w := 4) (k := 1) (r := 2) hn hs hp (by omega) (by decide) a1.2 hps (fun q D2 hq2 ha2 h41 => ?_) (fun D2 hq2 ha2 hps2 h402 => ?_)
      · rw [if_pos rfl]; exact H.1 q D2 (hie.trans (hq.trans hq2)) (ag_tr a1 ha2) h41
      have a2 : ag_ mz_ D D2 := ag_tr a1 ha2
      have e852 : D2.1 85 0 = nu_i (S 8 0 0) := by rw [ha2.1 _ _ (by unfold mz_; omega)]; exact e85
      rw [if_neg (by decide), if_neg (show ¬ nu_i 4 = (5 : Int32) by decide), if_neg (show ¬ nu_i 4 = (9 : Int32) by decide), if_neg (show ¬ nu_i 4 = (10 : Int32) by decide), h402]
      refine mp_187k (D0 := D) (w := 4) (k := 2) (r := 1) hn hs hp (by omega) (by decide) a2.2 hps2 (fun q D3 hq3 ha3 h41 => ?_) (fun D3 hq3 ha3 hps3 h403 => ?_)
      · rw [if_pos rfl]; exact H.1 q D3 (hie.trans (hq.trans (hq2.trans hq3))) (ag_tr a2 ha3) h41
      have a3 : ag_ mz_ D D3 := ag_tr a2 ha3
      have e853 : D3.1 85 0 = nu_i (S 8 0 0) := by rw [ha3.1 _ _ (by unfold mz_; omega)]; exact e852
      rw [if_neg (by decide), h403]
      refine mp_187k (D0 := D) (w := 4) (k := 3) (r := 0) hn hs hp (by omega) (by decide) a3.2 hps3 (fun q D4 hq4 ha4 h41 => ?_) (fun D4 hq4 ha4 hps4 h404 => ?_)
      · rw [if_pos rfl]; exact H.1 q D4 (hie.trans (hq.trans (hq2.trans (hq3.trans hq4)))) (ag_tr a3 ha4) h41
      have a4 : ag_ mz_ D D4 := ag_tr a3 ha4
      have e854 : D4.1 85 0 = nu_i (S 8 0 0) := by rw [ha4.1 _ _ (by unfold mz_; omega)]; exact e853
      rw [if_neg (by decide), h404]
      refine mp_169 e854 hlt fun D5 hm => mp_190a (w := 4) H hM (by omega) (by omega) hww (hie.trans (hq.trans (hq2.trans (hq3.trans hq4)))) a4 hps4 hm fun j hj => ?_
      have hj2 : j < 4 := hj
      rcases (show j = 0 ∨ j = 1 ∨ j = 2 ∨ j = 3 by omega) with rfl | rfl | rfl | rfl
      · rw [if_pos rfl, en_n (by omega)]
      · rw [if_neg (by omega), if_pos rfl, en_n (by omega)]
      · rw [if_neg (by omega), if_neg (by omega), if_pos rfl, en_n (by omega)]
      · rw [if_neg (by omega), if_neg (by omega), if_neg (by omega), en_n (by omega)]
theorem mp_190_5 {n sz p : Nat} {P : Int32 → pu_D → Prop} (H : hi_ D n sz S p P) (hW : wf_ S) (hM : re_M S D) (hn : n < 8) (hs : sz ≤ 120) (hp : p ≤ 120) (h : ps_ D n sz p) (hw : h110 D) (hww : wq_ D n sz p = 5) (hkb : kb_ D n sz 5 p 0) (hnf : ¬ S 8 0 1 = 9) : pu_h190_2 X 11 D P := by
      have hlt : S 8 0 1 < 9 := by have := wf_n hW; omega
      have hie : ie_ D n sz S p = nf_ D n sz 5 p 2 0 := ie_w (by omega) hww (Or.inr hnf)
      refine pu_u190_2 ?_
      rw [if_neg (show ¬ (11 : Int32) < 11 by decide)]
      refine mp_184v (v := 5) hn hs hp h hw (by omega) hww hkb ?_
      have a0 : ag_ mz_ D (pu_wi D 85 38 (nu_i (pq_ D n sz 5 p 0 + 1))) := ag_wi (ag_rf D) (by unfold mz_; omega)
      have ps0 : ps_ (pu_wi D 85 38 (nu_i (pq_ D n sz 5 p 0 + 1))) n sz (pq_ D n sz 5 p 0 + 1) := ps_0 h
      rw [show mv_ 5 = 5 from rfl]
      generalize pu_wi D 85 38 (nu_i (pq_ D n sz 5 p 0 + 1)) = E at *
      have eE : E.1 85 1 = nu_i (S 8 0 1) := by rw [a0.1 _ _ (by unfold mz_; omega)]; exact (hM.1 1 (by omega)).1
      have hnE : ¬ E.1 85 1 = (9 : Int32) := nu_nmo (m := 9) eE (by have := wf_n hW; omega) (by omega) hnf
      rw [if_neg (show ¬ nu_i 5 = (-1 : Int32) by decide), if_neg (show ¬ nu_i 5 < (4 : Int32) by decide), if_neg (show ¬ nu_i 5 = (4 : Int32) by decide), if_pos (show nu_i 5 = (5 : Int32) by decide), if_neg hnE]
      rw [if_neg (show ¬ nu_i 5 = (4 : Int32) by decide), if_neg (show ¬ nu_i 5 = (4 : Int32) by decide)]
      refine mp_186k (D0 := D) (w := 5) (k := 0) (r := 1) hn hs hp (by omega) (by decide) a0.2 hkb ps0 (fun q D' hq ha h41 => ?_) (fun D' hq ha hps h40 => ?_)
      · rw [if_pos rfl]; exact H.1 q D' (hie.trans hq) (ag_tr a0 ha) h41
      have a1 : ag_ mz_ D D' := ag_tr a0 ha
      have e85 : D'.1 85 1 = nu_i (S 8 0 1) := by rw [ha.1 _ _ (by unfold mz_; omega)]; exact eE
      rw [if_neg (by decide), if_pos (show nu_i 5 < (6 : Int32) by decide), h40]
      refine pu_u190_294 ?_
      rw [if_neg (show ¬ nu_i 5 = (4 : Int32) by decide), if_neg (show ¬ nu_i 5 = (10 : Int32) by decide), if_neg (show ¬ nu_i 5 = (4 : Int32) by decide), if_pos (show nu_i 5 = (5 : Int32) by decide)]
      refine mp_187k (D0 := D) (w := 5) (k := 1) (r := 0) hn hs hp (by omega) (by decide) a1.2 hps (fun q D2 hq2 ha2 h41 => ?_) (fun D2 hq2 ha2 hps2 h402 => ?_)
      · rw [if_pos rfl]; exact H.1 q D2 (hie.trans (hq.trans hq2)) (ag_tr a1 ha2) h41
      have a2 : ag_ mz_ D D2 := ag_tr a1 ha2
      have e852 : D2.1 85 1 = nu_i (S 8 0 1) := by rw [ha2.1 _ _ (by unfold mz_; omega)]; exact e85
      rw [if_neg (by decide), if_pos (show nu_i 5 = (5 : Int32) by decide), h402]
      refine mp_171 e852 hlt fun D3 hm => mp_190a (w := 5) H hM (by omega) (by omega) hww (hie.trans (hq.trans hq2)) a2 hps2 hm (vv_4 rfl rfl ?_ ?_)
      · rw [nv_0 (k := 2) (by decide)]; rfl
      · rw [nv_0 (k := 3) (by decide)]; rfl
theorem mp_190_6 {n sz p : Nat} {P : Int32 → pu_D → Prop} (H : hi_ D n sz S p P) (hW : wf_ S) (hM : re_M S D) (hn : n < 8) (hs : sz ≤ 120) (hp : p ≤ 120) (h : ps_ D n sz p) (hw : h110 D) (hww : wq_ D n sz p = 6) (hkb : kb_ D n sz 6 p 0) (hnf : ¬ S 8 0 2 = 12) : pu_h190_2 X 11 D P := by
      have hlt : S 8 0 2 < 12 := by have := wf_n hW; omega
      have hie : ie_ D n sz S p = nf_ D n sz 6 p 1 0 := ie_w (by omega) hww (Or.inr hnf)
      refine pu_u190_2 ?_
      rw [if_neg (show ¬ (11 : Int32) < 11 by decide)]
      refine mp_184v (v := 6) hn hs hp h hw (by omega) hww hkb ?_
      have a0 : ag_ mz_ D (pu_wi D 85 38 (nu_i (pq_ D n sz 6 p 0 + 1))) := ag_wi (ag_rf D) (by unfold mz_; omega)
      have ps0 : ps_ (pu_wi D 85 38 (nu_i (pq_ D n sz 6 p 0 + 1))) n sz (pq_ D n sz 6 p 0 + 1) := ps_0 h
      rw [show mv_ 6 = 6 from rfl]
      generalize pu_wi D 85 38 (nu_i (pq_ D n sz 6 p 0 + 1)) = E at *
      have eE : E.1 85 2 = nu_i (S 8 0 2) := by rw [a0.1 _ _ (by unfold mz_; omega)]; exact (hM.1 2 (by omega)).1
      have hnE : ¬ E.1 85 2 = (12 : Int32) := nu_nmo (m := 12) eE (by have := wf_n hW; omega) (by omega) hnf
      rw [if_neg (show ¬ nu_i 6 = (-1 : Int32) by decide), if_neg (show ¬ nu_i 6 < (4 : Int32) by decide), if_neg (show ¬ nu_i 6 = (4 : Int32) by decide), if_neg (show ¬ nu_i 6 = (5 : Int32) by decide), if_pos (show nu_i 6 < (9 : Int32) by decide)]
      have e173 : ∀ P, pu_I X 173 [.ref 85, .int (nu_i 6 - 6)] E P = P 0 E := by
        intro P
        refine pu_I_of (pu_e173 ?_) P
        rw [if_pos (show nu_i 6 - 6 = (0 : Int32) by decide), if_neg hnE]
        exact ⟨rfl, rfl⟩
      rw [e173, if_pos rfl, if_neg (show ¬ nu_i 6 = (4 : Int32) by decide), if_neg (show ¬ nu_i 6 = (4 : Int32) by decide)]
      refine mp_186k (D0 := D) (w := 6) (k := 0) (r := 0) hn hs hp (by omega) (by decide) a0.2 hkb ps0 (fun q D' hq ha h41 => ?_) (fun D' hq ha hps h40 => ?_)
      · rw [if_pos rfl]; exact H.1 q D' (hie.trans hq) (ag_tr a0 ha) h41
      · have a1 : ag_ mz_ D D' := ag_tr a0 ha
        have e85 : D'.1 85 2 = nu_i (S 8 0 2) := by rw [ha.1 _ _ (by unfold mz_; omega)]; exact eE
        rw [if_neg (by decide), if_neg (show ¬ nu_i 6 < (6 : Int32) by decide), if_pos (show nu_i 6 < (9 : Int32) by decide), show nu_i 6 - 6 = nu_i 0 by decide, h40]
        refine mp_174 (t := 2) (by omega) e85 hlt fun D2 hm => mp_190a (w := 6) H hM (by omega) (by omega) hww (hie.trans hq) a1 hps hm fun j hj => ?_
        have hj1 : j < 1 := hj
        have hj0 : j = 0 := by omega
        subst hj0; rfl
theorem mp_190_7 {n sz p : Nat} {P : Int32 → pu_D → Prop} (H : hi_ D n sz S p P) (hW : wf_ S) (hM : re_M S D) (hn : n < 8) (hs : sz ≤ 120) (hp : p ≤ 120) (h : ps_ D n sz p) (hw : h110 D) (hww : wq_ D n sz p = 7) (hkb : kb_ D n sz 7 p 0) (hnf : ¬ S 8 0 3 = 12) : pu_h190_2 X 11 D P := by
      have hlt : S 8 0 3 < 12 := by have := wf_n hW; omega
      have hie : ie_ D n sz S p = nf_ D n sz 7 p 1 0 := ie_w (by omega) hww (Or.inr hnf)
      refine pu_u190_2 ?_
      rw [if_neg (show ¬ (11 : Int32) < 11 by decide)]
      refine mp_184v (v := 7) hn hs hp h hw (by omega) hww hkb ?_
      have a0 : ag_ mz_ D (pu_wi D 85 38 (nu_i (pq_ D n sz 7 p 0 + 1))) := ag_wi (ag_rf D) (by unfold mz_; omega)
      have ps0 : ps_ (pu_wi D 85 38 (nu_i (pq_ D n sz 7 p 0 + 1))) n sz (pq_ D n sz 7 p 0 + 1) := ps_0 h
      rw [show mv_ 7 = 7 from rfl]
      generalize pu_wi D 85 38 (nu_i (pq_ D n sz 7 p 0 + 1)) = E at *
      have eE : E.1 85 3 = nu_i (S 8 0 3) := by rw [a0.1 _ _ (by unfold mz_; omega)]; exact (hM.1 3 (by omega)).1
      have hnE : ¬ E.1 85 3 = (12 : Int32) := nu_nmo (m := 12) eE (by have := wf_n hW; omega) (by omega) hnf
      rw [if_neg (show ¬ nu_i 7 = (-1 : Int32) by decide), if_neg (show ¬ nu_i 7 < (4 : Int32) by decide), if_neg (show ¬ nu_i 7 = (4 : Int32) by decide), if_neg (show ¬ nu_i 7 = (5 : Int32) by decide), if_pos (show nu_i 7 < (9 : Int32) by decide)]
      have e173 : ∀ P, pu_I X 173 [.ref 85, .int (nu_i 7 - 6)] E P = P 0 E := by
        intro P
        refine pu_I_of (pu_e173 ?_) P
        rw [if_neg (show ¬ nu_i 7 - 6 = (0 : Int32) by decide), if_pos (show nu_i 7 - 6 = (1 : Int32) by decide), if_neg hnE]
        exact ⟨rfl, rfl⟩
      rw [e173, if_pos rfl, if_neg (show ¬ nu_i 7 = (4 : Int32) by decide), if_neg (show ¬ nu_i 7 = (4 : Int32) by decide)]
      refine mp_186k (D0 := D) (w := 7) (k := 0) (r := 0) hn hs hp (by omega) (by decide) a0.2 hkb ps0 (fun q D' hq ha h41 => ?_) (fun D' hq ha hps h40 => ?_)
      · rw [if_pos rfl]; exact H.1 q D' (hie.trans hq) (ag_tr a0 ha) h41
      · have a1 : ag_ mz_ D D' := ag_tr a0 ha
        have e85 : D'.1 85 3 = nu_i (S 8 0 3) := by rw [ha.1 _ _ (by unfold mz_; omega)]; exact eE
        rw [if_neg (by decide), if_neg (show ¬ nu_i 7 < (6 : Int32) by decide), if_pos (show nu_i 7 < (9 : Int32) by decide), show nu_i 7 - 6 = nu_i 1 by decide, h40]
        refine mp_174 (t := 3) (by omega) e85 hlt fun D2 hm => mp_190a (w := 7) H hM (by omega) (by omega) hww (hie.trans hq) a1 hps hm fun j hj => ?_
        have hj1 : j < 1 := hj
        have hj0 : j = 0 := by omega
        subst hj0; rfl
theorem mp_190_8 {n sz p : Nat} {P : Int32 → pu_D → Prop} (H : hi_ D n sz S p P) (hW : wf_ S) (hM : re_M S D) (hn : n < 8) (hs : sz ≤ 120) (hp : p ≤ 120) (h : ps_ D n sz p) (hw : h110 D) (hww : wq_ D n sz p = 10) (hkb : kb_ D n sz 10 p 0) (hnf : ¬ S 8 0 6 = 6) : pu_h190_2 X 11 D P := by
      have hlt : S 8 0 6 < 6 := by have := wf_n hW; omega
      have hie : ie_ D n sz S p = nf_ D n sz 10 p 1 0 := ie_w (by omega) hww (Or.inr hnf)
      refine pu_u190_2 ?_
      rw [if_neg (show ¬ (11 : Int32) < 11 by decide)]
      refine mp_184v (v := 8) hn hs hp h hw (by omega) hww hkb ?_
      have a0 : ag_ mz_ D (pu_wi D 85 38 (nu_i (pq_ D n sz 10 p 0 + 1))) := ag_wi (ag_rf D) (by unfold mz_; omega)
      have ps0 : ps_ (pu_wi D 85 38 (nu_i (pq_ D n sz 10 p 0 + 1))) n sz (pq_ D n sz 10 p 0 + 1) := ps_0 h
      rw [show mv_ 8 = 10 from rfl]
      generalize pu_wi D 85 38 (nu_i (pq_ D n sz 10 p 0 + 1)) = E at *
      have eE : E.1 85 6 = nu_i (S 8 0 6) := by rw [a0.1 _ _ (by unfold mz_; omega)]; exact (hM.1 6 (by omega)).1
      have hnE : ¬ E.1 85 6 = (6 : Int32) := nu_nmo (m := 6) eE (by have := wf_n hW; omega) (by omega) hnf
      rw [if_neg (show ¬ nu_i 8 = (-1 : Int32) by decide), if_neg (show ¬ nu_i 8 < (4 : Int32) by decide), if_neg (show ¬ nu_i 8 = (4 : Int32) by decide), if_neg (show ¬ nu_i 8 = (5 : Int32) by decide), if_pos (show nu_i 8 < (9 : Int32) by decide)]
      have e173 : ∀ P, pu_I X 173 [.ref 85, .int (nu_i 8 - 6)] E P = P 0 E := by
        intro P
        refine pu_I_of (pu_e173 ?_) P
        rw [if_neg (show ¬ nu_i 8 - 6 = (0 : Int32) by decide), if_neg (show ¬ nu_i 8 - 6 = (1 : Int32) by decide), if_neg hnE]
        exact ⟨rfl, rfl⟩
      rw [e173, if_pos rfl, if_neg (show ¬ nu_i 8 = (4 : Int32) by decide), if_neg (show ¬ nu_i 8 = (4 : Int32) by decide)]
      refine mp_186k (D0 := D) (w := 10) (k := 0) (r := 0) hn hs hp (by omega) (by decide) a0.2 hkb ps0 (fun q D' hq ha h41 => ?_) (fun D' hq ha hps h40 => ?_)
      · rw [if_pos rfl]; exact H.1 q D' (hie.trans hq) (ag_tr a0 ha) h41
      · have a1 : ag_ mz_ D D' := ag_tr a0 ha
        have e85 : D'.1 85 6 = nu_i (S 8 0 6) := by rw [ha.1 _ _ (by unfold mz_; omega)]; exact eE
        rw [if_neg (by decide), if_neg (show ¬ nu_i 8 < (6 : Int32) by decide), if_pos (show nu_i 8 < (9 : Int32) by decide), show nu_i 8 - 6 = nu_i 2 by decide, h40]
        refine mp_174 (t := 6) (by omega) e85 hlt fun D2 hm => mp_190a (w := 10) H hM (by omega) (by omega) hww (hie.trans hq) a1 hps hm fun j hj => ?_
        have hj1 : j < 1 := hj
        have hj0 : j = 0 := by omega
        subst hj0; rfl
theorem mp_190_9 {n sz p : Nat} {P : Int32 → pu_D → Prop} (H : hi_ D n sz S p P) (hW : wf_ S) (hM : re_M S D) (hn : n < 8) (hs : sz ≤ 120) (hp : p ≤ 120) (h : ps_ D n sz p) (hw : h110 D) (hww : wq_ D n sz p = 8) (hkb : kb_ D n sz 8 p 0) (hnf : ¬ S 8 0 4 = 12) : pu_h190_2 X 11 D P := by
      have hlt : S 8 0 4 < 12 := by have := wf_n hW; omega
      have hie : ie_ D n sz S p = nf_ D n sz 8 p 2 0 := ie_w (by omega) hww (Or.inr hnf)
      refine pu_u190_2 ?_
      rw [if_neg (show ¬ (11 : Int32) < 11 by decide)]
      refine mp_184v (v := 9) hn hs hp h hw (by omega) hww hkb ?_
      have a0 : ag_ mz_ D (pu_wi D 85 38 (nu_i (pq_ D n sz 8 p 0 + 1))) := ag_wi (ag_rf D) (by unfold mz_; omega)
      have ps0 : ps_ (pu_wi D 85 38 (nu_i (pq_ D n sz 8 p 0 + 1))) n sz (pq_ D n sz 8 p 0 + 1) := ps_0 h
      rw [show mv_ 9 = 8 from rfl]
      generalize pu_wi D 85 38 (nu_i (pq_ D n sz 8 p 0 + 1)) = E at *
      have eE : E.1 85 4 = nu_i (S 8 0 4) := by rw [a0.1 _ _ (by unfold mz_; omega)]; exact (hM.1 4 (by omega)).1
      have hnE : ¬ E.1 85 4 = (12 : Int32) := nu_nmo (m := 12) eE (by have := wf_n hW; omega) (by omega) hnf
      rw [if_neg (show ¬ nu_i 9 = (-1 : Int32) by decide), if_neg (show ¬ nu_i 9 < (4 : Int32) by decide), if_neg (show ¬ nu_i 9 = (4 : Int32) by decide), if_neg (show ¬ nu_i 9 = (5 : Int32) by decide), if_neg (show ¬ nu_i 9 < (9 : Int32) by decide), if_pos (show nu_i 9 = (9 : Int32) by decide), if_neg hnE]
      rw [if_neg (show ¬ nu_i 9 = (4 : Int32) by decide), if_neg (show ¬ nu_i 9 = (4 : Int32) by decide)]
      refine mp_186k (D0 := D) (w := 8) (k := 0) (r := 1) hn hs hp (by omega) (by decide) a0.2 hkb ps0 (fun q D' hq ha h41 => ?_) (fun D' hq ha hps h40 => ?_)
      · rw [if_pos rfl]; exact H.1 q D' (hie.trans hq) (ag_tr a0 ha) h41
      have a1 : ag_ mz_ D D' := ag_tr a0 ha
      have e85 : D'.1 85 4 = nu_i (S 8 0 4) := by rw [ha.1 _ _ (by unfold mz_; omega)]; exact eE
      rw [if_neg (by decide), if_neg (show ¬ nu_i 9 < (6 : Int32) by decide), if_neg (show ¬ nu_i 9 < (9 : Int32) by decide), h40]
      refine pu_u190_294 ?_
      rw [if_neg (show ¬ nu_i 9 = (4 : Int32) by decide), if_neg (show ¬ nu_i 9 = (10 : Int32) by decide), if_neg (show ¬ nu_i 9 = (4 : Int32) by decide), if_neg (show ¬ nu_i 9 = (5 : Int32) by decide)]
      refine mp_187k (D0 := D) (w := 8) (k := 1) (r := 0) hn hs hp (by omega) (by decide) a1.2 hps (fun q D2 hq2 ha2 h41 => ?_) (fun D2 hq2 ha2 hps2 h402 => ?_)
      · rw [if_pos rfl]; exact H.1 q D2 (hie.trans (hq.trans hq2)) (ag_tr a1 ha2) h41
      have a2 : ag_ mz_ D D2 := ag_tr a1 ha2
      have e852 : D2.1 85 4 = nu_i (S 8 0 4) := by rw [ha2.1 _ _ (by unfold mz_; omega)]; exact e85
      rw [if_neg (by decide), if_neg (show ¬ nu_i 9 = (5 : Int32) by decide), if_pos (show nu_i 9 = (9 : Int32) by decide), h402]
      refine mp_176 e852 hlt fun D3 hm => mp_190a (w := 8) H hM (by omega) (by omega) hww (hie.trans (hq.trans hq2)) a2 hps2 hm fun j hj => ?_
      have hj2 : j < 2 := hj
      rcases (show j = 0 ∨ j = 1 by omega) with rfl | rfl
      · rw [if_pos rfl, en_n (by omega)]
      · rw [if_neg (by omega), en_n (by omega)]
theorem mp_190_10 {n sz p : Nat} {P : Int32 → pu_D → Prop} (H : hi_ D n sz S p P) (hW : wf_ S) (hM : re_M S D) (hn : n < 8) (hs : sz ≤ 120) (hp : p ≤ 120) (h : ps_ D n sz p) (hw : h110 D) (hww : wq_ D n sz p = 9) (hkb : kb_ D n sz 9 p 0) (hnf : ¬ S 8 0 5 = 8) : pu_h190_2 X 11 D P := by
      have hlt : S 8 0 5 < 8 := by have := wf_n hW; omega
      have hie : ie_ D n sz S p = nf_ D n sz 9 p 3 0 := ie_w (by omega) hww (Or.inr hnf)
      refine pu_u190_2 ?_
      rw [if_neg (show ¬ (11 : Int32) < 11 by decide)]
      refine mp_184v (v := 10) hn hs hp h hw (by omega) hww hkb ?_
      have a0 : ag_ mz_ D (pu_wi D 85 38 (nu_i (pq_ D n sz 9 p 0 + 1))) := ag_wi (ag_rf D) (by unfold mz_; omega)
      have ps0 : ps_ (pu_wi D 85 38 (nu_i (pq_ D n sz 9 p 0 + 1))) n sz (pq_ D n sz 9 p 0 + 1) := ps_0 h
      rw [show mv_ 10 = 9 from rfl]
      generalize pu_wi D 85 38 (nu_i (pq_ D n sz 9 p 0 + 1)) = E at *
      have eE : E.1 85 5 = nu_i (S 8 0 5) := by rw [a0.1 _ _ (by unfold mz_; omega)]; exact (hM.1 5 (by omega)).1
      have hnE : ¬ E.1 85 5 = (8 : Int32) := nu_nmo (m := 8) eE (by have := wf_n hW; omega) (by omega) hnf
      rw [if_neg (show ¬ nu_i 10 = (-1 : Int32) by decide), if_neg (show ¬ nu_i 10 < (4 : Int32) by decide), if_neg (show ¬ nu_i 10 = (4 : Int32) by decide), if_neg (show ¬ nu_i 10 = (5 : Int32) by decide), if_neg (show ¬ nu_i 10 < (9 : Int32) by decide), if_neg (show ¬ nu_i 10 = (9 : Int32) by decide), if_neg hnE]
      rw [if_neg (show ¬ nu_i 10 = (4 : Int32) by decide), if_neg (show ¬ nu_i 10 = (4 : Int32) by decide)]
      refine mp_186k (D0 := D) (w := 9) (k := 0) (r := 2) hn hs hp (by omega) (by decide) a0.2 hkb ps0 (fun q D' hq ha h41 => ?_) (fun D' hq ha hps h40 => ?_)
      · rw [if_pos rfl]; exact H.1 q D' (hie.trans hq) (ag_tr a0 ha) h41
      have a1 : ag_ mz_ D D' := ag_tr a0 ha
      have e85 : D'.1 85 5 = nu_i (S 8 0 5) := by rw [ha.1 _ _ (by unfold mz_; omega)]; exact eE
      rw [if_neg (by decide), if_neg (show ¬ nu_i 10 < (6 : Int32) by decide), if_neg (show ¬ nu_i 10 < (9 : Int32) by decide), h40]
      refine pu_u190_294 ?_
      rw [if_neg (show ¬ nu_i 10 = (4 : Int32) by decide), if_pos (show nu_i 10 = (10 : Int32) by decide), if_neg (show ¬ nu_i 10 = (4 : Int32) by decide), if_neg (show ¬ nu_i 10 = (5 : Int32) by decide)]
      refine mp_187k (D0 := D) (w := 9) (k := 1) (r := 1) hn hs hp (by omega) (by decide) a1.2 hps (fun q D2 hq2 ha2 h41 => ?_) (fun D2 hq2 ha2 hps2 h402 => ?_)
      · rw [if_pos rfl]; exact H.1 q D2 (hie.trans (hq.trans hq2)) (ag_tr a1 ha2) h41
      have a2 : ag_ mz_ D D2 := ag_tr a1 ha2
      have e852 : D2.1 85 5 = nu_i (S 8 0 5) := by rw [ha2.1 _ _ (by unfold mz_; omega)]; exact e85
      rw [if_neg (by decide), if_neg (show ¬ nu_i 10 = (5 : Int32) by decide), if_neg (show ¬ nu_i 10 = (9 : Int32) by decide), if_pos (show nu_i 10 = (10 : Int32) by decide), h402]
      refine mp_187k (D0 := D) (w := 9) (k := 2) (r := 0) hn hs hp (by omega) (by decide) a2.2 hps2 (fun q D3 hq3 ha3 h41 => ?_) (fun D3 hq3 ha3 hps3 h403 => ?_)
      · rw [if_pos rfl]; exact H.1 q D3 (hie.trans (hq.trans (hq2.trans hq3))) (ag_tr a2 ha3) h41
      have a3 : ag_ mz_ D D3 := ag_tr a2 ha3
      have e853 : D3.1 85 5 = nu_i (S 8 0 5) := by rw [ha3.1 _ _ (by unfold mz_; omega)]; exact e852
      rw [if_neg (by decide), h403]
      refine mp_178 e853 hlt fun D4 hm => mp_190a (w := 9) H hM (by omega) (by omega) hww (hie.trans (hq.trans (hq2.trans hq3))) a3 hps3 hm fun j hj => ?_
      have hj2 : j < 3 := hj
      rcases (show j = 0 ∨ j = 1 ∨ j = 2 by omega) with rfl | rfl | rfl
      · rw [if_pos rfl, en_n (by omega)]
      · rw [if_neg (by omega), if_pos rfl, en_n (by omega)]
      · rw [if_neg (by omega), if_neg (by omega), en_n (by omega)]
theorem mp_190w {n sz p : Nat} {P : Int32 → pu_D → Prop} (H : hi_ D n sz S p P) (hW : wf_ S) (hM : re_M S D) (hn : n < 8) (hs : sz ≤ 120) (hp : p ≤ 120) (h : ps_ D n sz p) (hw : h110 D) (hfull : ∀ u, 4 ≤ u → u < 11 → ¬ (wq_ D n sz p = mv_ u ∧ S 8 0 (mv_ u - 4) = mo_ (mv_ u - 4))) : pu_h190_2 X 11 D P := by
  have hle : wq_ D n sz p ≤ 11 := fi_le _ _
  by_cases c : wq_ D n sz p = 11
  · refine pu_u190_2 ?_
    rw [if_neg (show ¬ (11 : Int32) < 11 by decide)]
    refine mp_184 hn hs (by omega) h hw (fun hww => ?_) (fun v hv hww hkb => ?_) (fun v hv hww hkb => ?_)
    · rw [if_pos rfl]
      refine H.1 _ _ ?_ (ag_wi (ag_rf D) (by unfold mz_; omega)) wi_eq
      unfold ie_; rw [if_pos hww]
    · have := (of_h hv).1; omega
    · have := (of_h hv).1; omega
  · obtain ⟨v, hv, hmv⟩ := mv_s (w := wq_ D n sz p) (by omega)
    have o1 := (of_h hv).1
    by_cases hkb : kb_ D n sz (mv_ v) p 0
    · have hnf : 4 ≤ v → ¬ S 8 0 (mv_ v - 4) = mo_ (mv_ v - 4) := fun h4 z => hfull v h4 hv ⟨hmv.symm, z⟩
      have hmv2 := hmv.symm
      clear hmv hfull c
      rcases (show v = 0 ∨ v = 1 ∨ v = 2 ∨ v = 3 ∨ v = 4 ∨ v = 5 ∨ v = 6 ∨ v = 7 ∨ v = 8 ∨ v = 9 ∨ v = 10 by omega) with rfl | rfl | rfl | rfl | rfl | rfl | rfl | rfl | rfl | rfl | rfl
      · exact mp_190_0 H hW hM hn hs hp h hw hmv2 hkb
      · exact mp_190_1 H hW hM hn hs hp h hw hmv2 hkb
      · exact mp_190_2 H hW hM hn hs hp h hw hmv2 hkb
      · exact mp_190_3 H hW hM hn hs hp h hw hmv2 hkb
      · exact mp_190_4 H hW hM hn hs hp h hw hmv2 hkb (hnf (by omega))
      · exact mp_190_5 H hW hM hn hs hp h hw hmv2 hkb (hnf (by omega))
      · exact mp_190_6 H hW hM hn hs hp h hw hmv2 hkb (hnf (by omega))
      · exact mp_190_7 H hW hM hn hs hp h hw hmv2 hkb (hnf (by omega))
      · exact mp_190_8 H hW hM hn hs hp h hw hmv2 hkb (hnf (by omega))
      · exact mp_190_9 H hW hM hn hs hp h hw hmv2 hkb (hnf (by omega))
      · exact mp_190_10 H hW hM hn hs hp h hw hmv2 hkb (hnf (by omega))
    · have hb4 := nb_4 o1
      have hr : mv_ v < 4 ∨ ¬ S 8 0 (mv_ v - 4) = mo_ (mv_ v - 4) := by
        by_cases c2 : mv_ v < 4
        · exact Or.inl c2
        · refine Or.inr fun z => hfull v ?_ hv ⟨hmv.symm, z⟩
          refine Decidable.byContradiction fun z2 => c2 ?_
          rcases (show v = 0 ∨ v = 1 ∨ v = 2 ∨ v = 3 by omega) with rfl | rfl | rfl | rfl <;> decide
      refine pu_u190_2 ?_
      rw [if_neg (show ¬ (11 : Int32) < 11 by decide)]
      refine mp_184 hn hs (by omega) h hw (fun hww => ?_) (fun u hu hww hkb2 => ?_) (fun u hu hww hkb2 => ?_)
      · omega
      · rw [if_pos rfl]
        have e := mv_i hv hu (hmv.trans hww)
        subst e
        refine H.1 _ _ ?_ (ag_wi (ag_rf D) (by unfold mz_; omega)) wi_eq
        rw [ie_w o1 hww hr, show nb_ (mv_ v) = (nb_ (mv_ v) - 1) + 1 by omega]
        exact nf_s.1 hkb2
      · have e := mv_i hv hu (hmv.trans hww)
        subst e
        exact absurd hkb2 hkb
end WD
