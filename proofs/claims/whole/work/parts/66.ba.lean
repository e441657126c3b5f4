/-! A WORD READ by the reference. -/
/-- the reference's word v in the class's order; where its letters begin -/
def mv_ (v : Nat) : Nat := [0, 1, 2, 3, 4, 5, 6, 7, 10, 8, 9].getD v 0
def of_ (v : Nat) : Nat := [0, 7, 13, 19, 25, 31, 38, 44, 50, 56, 64, 70].getD v 0
/-- how much of word v and its blank stands at p -/
def sm_ (D : pu_D) (n sz p v : Nat) : Nat := fi_ (fun i => !decide (jv_ D n sz (p + i) = nu_i (wl_.getD (of_ v + i) 0))) (px_wl.getD (mv_ v) 0 + 1)
/-- how far the first v of them reach -/
def rm_ (D : pu_D) (n sz p v : Nat) : Nat := fo_ (fun j m => if m < p + sm_ D n sz p j then p + sm_ D n sz p j else m) v p
def zc_ (c : Nat) : Nat := ct_ (fun i => decide (wl_.getD i 0 = 0)) c
section WD
variable {X : px_X} {S : Nat → Nat → Nat → Nat} {D : pu_D}
theorem of_B : (List.range 11).all (fun v => decide (mv_ v < 11) && decide (of_ (v + 1) = of_ v + px_wl.getD (mv_ v) 0 + 2) && decide (of_ v + px_wl.getD (mv_ v) 0 + 1 < 70) && decide (wl_.getD (of_ v + px_wl.getD (mv_ v) 0) 0 = 32) && decide (wl_.getD (of_ v + px_wl.getD (mv_ v) 0 + 1) 0 = 0) && decide (zc_ (of_ v) = v) && (List.range (px_wl.getD (mv_ v) 0)).all (fun i => decide (nu_i (wl_.getD (of_ v + i) 0) = (px_wb.getD (mv_ v) []).getD i 0) && decide (32 < wl_.getD (of_ v + i) 0) && decide (wl_.getD (of_ v + i) 0 < 128)) && (List.range (of_ v)).all (fun c => decide (zc_ c < v))) = true := by decide +kernel
theorem of_h {v : Nat} (hv : v < 11) : mv_ v < 11 ∧ of_ (v + 1) = of_ v + px_wl.getD (mv_ v) 0 + 2 ∧ of_ v + px_wl.getD (mv_ v) 0 + 1 < 70 ∧ wl_.getD (of_ v + px_wl.getD (mv_ v) 0) 0 = 32 ∧ wl_.getD (of_ v + px_wl.getD (mv_ v) 0 + 1) 0 = 0 ∧ zc_ (of_ v) = v ∧ (∀ i, i < px_wl.getD (mv_ v) 0 → nu_i (wl_.getD (of_ v + i) 0) = (px_wb.getD (mv_ v) []).getD i 0 ∧ 32 < wl_.getD (of_ v + i) 0 ∧ wl_.getD (of_ v + i) 0 < 128) ∧ ∀ c, c < of_ v → zc_ c < v := by
  have h := List.all_eq_true.mp of_B v (List.mem_range.mpr hv)
  simp only [Bool.and_eq_true, decide_eq_true_eq] at h
  obtain ⟨⟨⟨⟨⟨⟨⟨h1, h2⟩, h3⟩, h4⟩, h5⟩, h6⟩, h7⟩, h8⟩ := h
  refine ⟨h1, h2, h3, h4, h5, h6, fun i hi => ?_, fun c hc => ?_⟩
  · have := List.all_eq_true.mp h7 i (List.mem_range.mpr hi)
    simp only [Bool.and_eq_true, decide_eq_true_eq] at this
    exact ⟨this.1.1, this.1.2, this.2⟩
  · have := List.all_eq_true.mp h8 c (List.mem_range.mpr hc)
    exact of_decide_eq_true this
theorem wl_B : (List.range 70).all (fun i => decide (wl_.getD i 0 < 128)) = true := by decide
theorem wl_b {i : Nat} (h : i < 70) : wl_.getD i 0 < 128 := of_decide_eq_true (List.all_eq_true.mp wl_B i (List.mem_range.mpr h))
theorem mv_B : (List.range 11).all (fun w => (List.range 11).any fun v => decide (mv_ v = w)) = true := by decide
theorem mv_s {w : Nat} (hw : w < 11) : ∃ v, v < 11 ∧ mv_ v = w := by
  have h := List.all_eq_true.mp mv_B w (List.mem_range.mpr hw)
  simp only [List.any_eq_true, decide_eq_true_eq, List.mem_range] at h
  exact h
theorem mv_I : (List.range 11).all (fun v => (List.range 11).all fun u => decide (v = u) || !decide (mv_ v = mv_ u)) = true := by decide
theorem mv_i {v u : Nat} (hv : v < 11) (hu : u < 11) (h : mv_ v = mv_ u) : v = u := by
  have := List.all_eq_true.mp (List.all_eq_true.mp mv_I v (List.mem_range.mpr hv)) u (List.mem_range.mpr hu)
  simp only [Bool.or_eq_true, decide_eq_true_eq, Bool.not_eq_true', decide_eq_false_iff_not] at this
  exact this.resolve_right fun z => z h
theorem sm_s {n sz p v : Nat} (hv : v < 11) : (¬ sl_w D n sz p (mv_ v) = px_wl.getD (mv_ v) 0 → sm_ D n sz p v = sl_w D n sz p (mv_ v)) ∧ (sl_w D n sz p (mv_ v) = px_wl.getD (mv_ v) 0 → sm_ D n sz p v = if jv_ D n sz (p + px_wl.getD (mv_ v) 0) = 32 then px_wl.getD (mv_ v) 0 + 1 else px_wl.getD (mv_ v) 0) := by
  obtain ⟨o1, o2, o3, o4, o5, o6, o7, o8⟩ := of_h hv
  have e : fi_ (fun i => !decide (jv_ D n sz (p + i) = nu_i (wl_.getD (of_ v + i) 0))) (px_wl.getD (mv_ v) 0) = sl_w D n sz p (mv_ v) := fi_congr fun i hi => by rw [(o7 i hi).1]
  have hle : sl_w D n sz p (mv_ v) ≤ px_wl.getD (mv_ v) 0 := fi_le _ _
  have e2 : sm_ D n sz p v = if sl_w D n sz p (mv_ v) < px_wl.getD (mv_ v) 0 then sl_w D n sz p (mv_ v) else if (!decide (jv_ D n sz (p + px_wl.getD (mv_ v) 0) = 32)) = true then px_wl.getD (mv_ v) 0 else px_wl.getD (mv_ v) 0 + 1 := by
    unfold sm_
    rw [fi_, e, o4]; rfl
  refine ⟨fun h => ?_, fun h => ?_⟩
  · rw [e2, if_pos (by omega)]
  · rw [e2, if_neg (by omega)]
    by_cases c : jv_ D n sz (p + px_wl.getD (mv_ v) 0) = 32
    · rw [if_pos c, if_neg (by simpa using c)]
    · rw [if_neg c, if_pos (by simpa using c)]
theorem rm_s {n sz p v : Nat} : rm_ D n sz p (v + 1) = if rm_ D n sz p v < p + sm_ D n sz p v then p + sm_ D n sz p v else rm_ D n sz p v := rfl
theorem rm_u {n sz p : Nat} : ∀ v, p ≤ rm_ D n sz p v ∧ (∀ u, u < v → p + sm_ D n sz p u ≤ rm_ D n sz p v) ∧ (rm_ D n sz p v = p ∨ ∃ u, u < v ∧ rm_ D n sz p v = p + sm_ D n sz p u)
  | 0 => ⟨Nat.le_refl _, fun u hu => absurd hu (Nat.not_lt_zero _), Or.inl rfl⟩
  | v + 1 => by
    obtain ⟨h1, h2, h3⟩ := rm_u (n := n) (sz := sz) (p := p) v
    rw [rm_s]
    by_cases c : rm_ D n sz p v < p + sm_ D n sz p v
    · rw [if_pos c]
      refine ⟨by omega, fun u hu => ?_, Or.inr ⟨v, by omega, rfl⟩⟩
      by_cases e : u = v
      · subst e; omega
      · have := h2 u (by omega); omega
    · rw [if_neg c]
      refine ⟨h1, fun u hu => ?_, ?_⟩
      · by_cases e : u = v
        · subst e; omega
        · exact h2 u (by omega)
      · rcases h3 with h3 | ⟨u, h4, h5⟩
        · exact Or.inl h3
        · exact Or.inr ⟨u, by omega, h5⟩
theorem rw_u {n sz p : Nat} : ∀ w, p ≤ rw_ D n sz p w ∧ (∀ u, u < w → p + sl_w D n sz p u ≤ rw_ D n sz p w) ∧ (rw_ D n sz p w = p ∨ ∃ u, u < w ∧ rw_ D n sz p w = p + sl_w D n sz p u)
  | 0 => ⟨Nat.le_refl _, fun u hu => absurd hu (Nat.not_lt_zero _), Or.inl rfl⟩
  | v + 1 => by
    obtain ⟨h1, h2, h3⟩ := rw_u (n := n) (sz := sz) (p := p) v
    rw [rw_s]
    by_cases c : rw_ D n sz p v < p + sl_w D n sz p v
    · rw [if_pos c]
      refine ⟨by omega, fun u hu => ?_, Or.inr ⟨v, by omega, rfl⟩⟩
      by_cases e : u = v
      · subst e; omega
      · have := h2 u (by omega); omega
    · rw [if_neg c]
      refine ⟨h1, fun u hu => ?_, ?_⟩
      · by_cases e : u = v
        · subst e; omega
        · exact h2 u (by omega)
      · rcases h3 with h3 | ⟨u, h4, h5⟩
        · exact Or.inl h3
        · exact Or.inr ⟨u, by omega, h5⟩
/-- no word stands: both reach alike -/
theorem rm_w {n sz p : Nat} (h : ∀ w, w < 11 → ¬ sl_w D n sz p w = px_wl.getD w 0) : rm_ D n sz p 11 = rw_ D n sz p 11 := by
  obtain ⟨a1, a2, a3⟩ := rm_u (D := D) (n := n) (sz := sz) (p := p) 11
  obtain ⟨b1, b2, b3⟩ := rw_u (D := D) (n := n) (sz := sz) (p := p) 11
  have hs : ∀ v, v < 11 → sm_ D n sz p v = sl_w D n sz p (mv_ v) := fun v hv => (sm_s hv).1 (h _ (of_h hv).1)
  have h1 : rm_ D n sz p 11 ≤ rw_ D n sz p 11 := by
    rcases a3 with z | ⟨u, z1, z2⟩
    · omega
    · rw [hs u z1] at z2
      have := b2 (mv_ u) (of_h z1).1
      omega
  have h2 : rw_ D n sz p 11 ≤ rm_ D n sz p 11 := by
    rcases b3 with z | ⟨u, z1, z2⟩
    · omega
    · obtain ⟨v, v1, v2⟩ := mv_s z1
      have := a2 v v1
      rw [hs v v1, v2] at this
      omega
  omega
/-- a word stands without a blank -/
theorem rm_b {n sz p v : Nat} (hv : v < 11) (h : sl_w D n sz p (mv_ v) = px_wl.getD (mv_ v) 0) (hb : ¬ jv_ D n sz (p + px_wl.getD (mv_ v) 0) = 32) : rm_ D n sz p 11 = p + px_wl.getD (mv_ v) 0 := by
  obtain ⟨a1, a2, a3⟩ := rm_u (D := D) (n := n) (sz := sz) (p := p) 11
  have e := (sm_s hv).2 h
  rw [if_neg hb] at e
  have h1 := a2 v hv
  rw [e] at h1
  rcases a3 with z | ⟨u, z1, z2⟩
  · have := wl_6 (of_h hv).1; omega
  · by_cases eu : u = v
    · subst eu; omega
    · have h3 := sl_lt (j := mv_ u) (of_h z1).1 (of_h hv).1 (fun y => eu (mv_i z1 hv y)) h
      rw [(sm_s z1).1 (by omega)] at z2
      omega
/-- the reference's words stand there -/
def h110 (D : pu_D) : Prop := ∀ i, i < 70 → D.1 110 i = nu_i (wl_.getD i 0)
theorem mp_184_106 {v : Nat} {x2 : Int32} {P : Int32 → pu_D → Prop} (hw : h110 D) (hv : v < 11) (H : pu_h184_9 X (nu_i (of_ (v + 1))) x2 (nu_i (v + 1)) D P) : pu_h184_106 X (nu_i (of_ v)) x2 (nu_i v) D P := by
  obtain ⟨o1, o2, o3, o4, o5, o6, o7, o8⟩ := of_h hv
  have key : ∀ r i, i + r = px_wl.getD (mv_ v) 0 + 1 → pu_h184_106 X (nu_i (of_ v + i)) x2 (nu_i v) D P := by
    intro r
    induction r with
    | zero =>
      intro i hi
      have e : i = px_wl.getD (mv_ v) 0 + 1 := by omega
      refine pu_u184_106 ?_
      rw [nu_in (by omega), nu_ix (by omega), hw _ (by omega), e, show of_ v + (px_wl.getD (mv_ v) 0 + 1) = of_ v + px_wl.getD (mv_ v) 0 + 1 by omega, o5, if_pos (show nu_i 0 = (0 : Int32) from rfl), nu_addn, nu_addn]
      refine ⟨by omega, ?_⟩
      rw [o2] at H
      exact H
    | succ r ih =>
      intro i hi
      refine pu_u184_106 ?_
      have hne : ¬ nu_i (wl_.getD (of_ v + i) 0) = (0 : Int32) := by
        rw [show (0 : Int32) = nu_i 0 from rfl, nu_eq (by have := wl_b (i := of_ v + i) (by omega); omega) (by omega)]
        by_cases e : i < px_wl.getD (mv_ v) 0
        · have := (o7 i e).2.1; omega
        · have e2 : i = px_wl.getD (mv_ v) 0 := by omega
          rw [e2, o4]; decide
      rw [nu_in (by omega), nu_ix (by omega), hw _ (by omega), if_neg hne, nu_addn]
      exact ⟨by omega, ih (i + 1) (by omega)⟩
  exact key _ 0 (Nat.zero_add _)
theorem mp_184_24 {n sz p v : Nat} {x2 : Int32} {P : Int32 → pu_D → Prop} (hn : n < 8) (hs : sz ≤ 120) (hp : p ≤ 150) (h : ps_ D n sz p) (hw : h110 D) (hv : v < 11) (H : if sm_ D n sz p v = px_wl.getD (mv_ v) 0 + 1 then P (nu_i v) (pu_wi D 85 38 (nu_i (p + px_wl.getD (mv_ v) 0 + 1))) else (if x2 < nu_i (p + sm_ D n sz p v) then pu_h184_9 X (nu_i (of_ (v + 1))) (nu_i (p + sm_ D n sz p v)) (nu_i (v + 1)) D P else pu_h184_9 X (nu_i (of_ (v + 1))) x2 (nu_i (v + 1)) D P)) : pu_h184_24 X (nu_i (of_ v)) x2 (nu_i v) (nu_i p) (nu_i (of_ v)) D P := by
  obtain ⟨o1, o2, o3, o4, o5, o6, o7, o8⟩ := of_h hv
  obtain ⟨h1, h2, h3⟩ := id h
  have hl := wl_6 o1
  have hle : sm_ D n sz p v ≤ px_wl.getD (mv_ v) 0 + 1 := fi_le _ _
  have hat := fi_at (fun i => !decide (jv_ D n sz (p + i) = nu_i (wl_.getD (of_ v + i) 0))) (px_wl.getD (mv_ v) 0 + 1)
  have hne : ∀ i, i ≤ px_wl.getD (mv_ v) 0 → ¬ nu_i (wl_.getD (of_ v + i) 0) = (0 : Int32) := by
    intro i hi
    rw [show (0 : Int32) = nu_i 0 from rfl, nu_eq (by have := wl_b (i := of_ v + i) (by omega); omega) (by omega)]
    by_cases e : i < px_wl.getD (mv_ v) 0
    · have := (o7 i e).2.1; omega
    · have e2 : i = px_wl.getD (mv_ v) 0 := by omega
      rw [e2, o4]; decide
  have key : ∀ r i, i + r = sm_ D n sz p v → pu_h184_24 X (nu_i (of_ v)) x2 (nu_i v) (nu_i (p + i)) (nu_i (of_ v + i)) D P := by
    intro r
    induction r with
    | zero =>
      intro i hi
      have hi2 : i = sm_ D n sz p v := by omega
      refine pu_u184_24 ?_
      rw [nu_in (by omega), nu_ix (by omega), hw _ (by omega)]
      refine ⟨by omega, ?_⟩
      by_cases c : sm_ D n sz p v = px_wl.getD (mv_ v) 0 + 1
      · rw [if_pos c] at H
        have e : of_ v + i = of_ v + px_wl.getD (mv_ v) 0 + 1 := by omega
        rw [e, o5, if_pos (show nu_i 0 = (0 : Int32) from rfl)]
        refine ⟨by omega, ?_⟩
        rw [if_pos (show nu_i 0 = (0 : Int32) from rfl), show p + i = p + px_wl.getD (mv_ v) 0 + 1 by omega]
        exact H
      · rw [if_neg c] at H
        have hz := hne i (by omega)
        have hbad : ¬ jv_ D n sz (p + i) = nu_i (wl_.getD (of_ v + i) 0) := by
          have := hat.1 (show sm_ D n sz p v < _ by omega)
          rw [hi2]
          simpa [sm_] using this
        have tail : (if x2 < nu_i (p + i) then pu_h184_106 X (nu_i (of_ v)) (nu_i (p + i)) (nu_i v) D P else pu_h184_106 X (nu_i (of_ v)) x2 (nu_i v) D P) := by
          rw [hi2]
          by_cases c2 : x2 < nu_i (p + sm_ D n sz p v)
          · rw [if_pos c2] at H ⊢; exact mp_184_106 hw hv H
          · rw [if_neg c2] at H ⊢; exact mp_184_106 hw hv H
        rw [if_neg hz, h1, h3]
        by_cases c3 : p + i < sz
        · rw [if_pos (nu_ltp (by omega) c3), nu_add, nu_in (by omega), nu_ix (by omega)]
          refine ⟨by omega, by omega, ?_⟩
          have ej : jv_ D n sz (p + i) = Int64.toInt32 (D.2 108 (120 * n + (p + i))) := if_pos c3
          rw [ej] at hbad
          rw [if_neg hbad]
          refine ⟨by omega, ?_⟩
          rw [if_neg hz]; exact tail
        · rw [if_neg (nu_ltx (by omega) c3)]
          refine ⟨by omega, ?_⟩
          rw [if_neg hz]; exact tail
    | succ r ih =>
      intro i hi
      have hok : jv_ D n sz (p + i) = nu_i (wl_.getD (of_ v + i) 0) := by
        have := hat.2 i (show i < sm_ D n sz p v by omega)
        simpa using this
      have hz := hne i (by omega)
      have c3 : p + i < sz := by
        refine Decidable.byContradiction fun c => ?_
        unfold jv_ at hok
        rw [if_neg c] at hok
        exact hz hok.symm
      have ej : jv_ D n sz (p + i) = Int64.toInt32 (D.2 108 (120 * n + (p + i))) := if_pos c3
      rw [ej] at hok
      refine pu_u184_24 ?_
      rw [nu_in (by omega), nu_ix (by omega), hw _ (by omega), if_neg hz, h1, h3, if_pos (nu_ltp (by omega) c3), nu_add, nu_in (by omega), nu_ix (by omega), if_pos hok, nu_addn, nu_addn]
      exact ⟨by omega, by omega, by omega, ih (i + 1) (by omega)⟩
  exact key _ 0 (Nat.zero_add _)
theorem mp_184 {n sz p : Nat} {P : Int32 → pu_D → Prop} (hn : n < 8) (hs : sz ≤ 120) (hp : p ≤ 150) (h : ps_ D n sz p) (hw : h110 D) (H0 : wq_ D n sz p = 11 → P (-1) (pu_wi D 85 41 (nu_i (rw_ D n sz p 11)))) (Hb : ∀ v, v < 11 → wq_ D n sz p = mv_ v → ¬ kb_ D n sz (mv_ v) p 0 → P (-1) (pu_wi D 85 41 (nu_i (pq_ D n sz (mv_ v) p 0)))) (H1 : ∀ v, v < 11 → wq_ D n sz p = mv_ v → kb_ D n sz (mv_ v) p 0 → P (nu_i v) (pu_wi D 85 38 (nu_i (pq_ D n sz (mv_ v) p 0 + 1)))) : pu_I X 184 [.ref 85] D P := by
  have hsl : ∀ v, v < 11 → sl_w D n sz p (mv_ v) ≤ px_wl.getD (mv_ v) 0 := fun v _ => fi_le _ _
  have hrm : ∀ v, v ≤ 11 → rm_ D n sz p v ≤ p + 7 := by
    intro v hv
    obtain ⟨a1, a2, a3⟩ := rm_u (D := D) (n := n) (sz := sz) (p := p) v
    rcases a3 with z | ⟨u, z1, z2⟩
    · omega
    · have h1 : sm_ D n sz p u ≤ px_wl.getD (mv_ u) 0 + 1 := fi_le _ _
      have h2 := wl_6 (of_h (v := u) (by omega)).1
      omega
  have key : ∀ r v, v + r = 11 → (∀ u, u < v → ¬ sm_ D n sz p u = px_wl.getD (mv_ u) 0 + 1) → pu_h184_9 X (nu_i (of_ v)) (nu_i (rm_ D n sz p v)) (nu_i v) D P := by
    intro r
    induction r with
    | zero =>
      intro v hv hu
      have e : v = 11 := by omega
      subst e
      refine pu_u184_9 ?_
      rw [if_neg (show ¬ nu_i 11 < (11 : Int32) by decide)]
      by_cases c : ∃ w, w < 11 ∧ sl_w D n sz p w = px_wl.getD w 0
      · obtain ⟨w, w1, w2⟩ := c
        obtain ⟨u, u1, u2⟩ := mv_s w1
        subst u2
        have hb : ¬ jv_ D n sz (p + px_wl.getD (mv_ u) 0) = 32 := fun z => hu u u1 (by rw [(sm_s u1).2 w2, if_pos z])
        rw [rm_b u1 w2 hb]
        exact Hb u u1 (ww_f w1 w2) hb
      · have c' : ∀ w, w < 11 → ¬ sl_w D n sz p w = px_wl.getD w 0 := fun w hw2 z => c ⟨w, hw2, z⟩
        rw [rm_w c']
        exact H0 (ww_0 c')
    | succ r ih =>
      intro v hv hu
      have hv11 : v < 11 := by omega
      obtain ⟨h1, h2, h3⟩ := id h
      refine pu_u184_9 ?_
      rw [if_pos (show nu_i v < (11 : Int32) from nu_ltp (b := 11) (by omega) hv11), h2]
      refine mp_184_24 hn hs hp h hw hv11 ?_
      by_cases c : sm_ D n sz p v = px_wl.getD (mv_ v) 0 + 1
      · rw [if_pos c]
        have w1 : sl_w D n sz p (mv_ v) = px_wl.getD (mv_ v) 0 := by
          refine Decidable.byContradiction fun z => ?_
          rw [(sm_s hv11).1 z] at c
          have := hsl v hv11
          omega
        have w2 : jv_ D n sz (p + px_wl.getD (mv_ v) 0) = 32 := by
          refine Decidable.byContradiction fun z => ?_
          rw [(sm_s hv11).2 w1, if_neg z] at c
          omega
        exact H1 v hv11 (ww_f (of_h hv11).1 w1) w2
      · rw [if_neg c]
        have hrv := hrm v (by omega)
        have hsv : sm_ D n sz p v ≤ px_wl.getD (mv_ v) 0 + 1 := fi_le _ _
        have hl := wl_6 (of_h hv11).1
        have hnext := ih (v + 1) (by omega) (fun u hu2 => by
          by_cases e : u = v
          · subst e; exact c
          · exact hu u (by omega))
        rw [rm_s] at hnext
        by_cases c2 : rm_ D n sz p v < p + sm_ D n sz p v
        · rw [if_pos c2] at hnext
          rw [if_pos (nu_ltp (by omega) c2)]; exact hnext
        · rw [if_neg c2] at hnext
          rw [if_neg (nu_ltx (by omega) c2)]; exact hnext
  refine pu_e184 ?_
  rw [h.2.1]
  exact key 11 0 rfl (fun u hu => absurd hu (Nat.not_lt_zero _))
theorem zc_s {c : Nat} : zc_ (c + 1) = if wl_.getD c 0 = 0 then zc_ c + 1 else zc_ c := by
  unfold zc_
  rw [ct_]
  by_cases h : wl_.getD c 0 = 0
  · rw [if_pos h, if_pos (decide_eq_true h)]
  · rw [if_neg h, if_neg (by simpa using h)]
theorem mp_189 {n sz p v : Nat} {P : Int32 → pu_D → Prop} (hn : n < 8) (hs : sz ≤ 120) (hp : p ≤ 150) (h : ps_ D n sz p) (hw : h110 D) (hv : v < 11) : pu_I X 189 [.ref 85, .int (nu_i v)] D P = P (nu_b (wq_ D n sz p = mv_ v)) D := by
  obtain ⟨o1, o2, o3, o4, o5, o6, o7, o8⟩ := of_h hv
  obtain ⟨h1, h2, h3⟩ := id h
  have hl := wl_6 o1
  refine pu_I_of (pu_e189 ?_) P
  -- the letters
  have hle : sl_w D n sz p (mv_ v) ≤ px_wl.getD (mv_ v) 0 := fi_le _ _
  have hat := fi_at (fun i => !decide (jv_ D n sz (p + i) = (px_wb.getD (mv_ v) []).getD i 0)) (px_wl.getD (mv_ v) 0)
  have hgt : ∀ i, i < px_wl.getD (mv_ v) 0 → (32 : Int32) < nu_i (wl_.getD (of_ v + i) 0) := by
    intro i hi
    have := o7 i hi
    rw [nu_nlt (by omega) (by omega)]; exact this.2.1
  have k2 : ∀ r i, i + r = sl_w D n sz p (mv_ v) → pu_h189_37 X (nu_i (of_ v + i)) (nu_i (p + i)) D (fun y D' => y = nu_b (wq_ D n sz p = mv_ v) ∧ D' = D) := by
    intro r
    induction r with
    | zero =>
      intro i hi
      refine pu_u189_37 ?_
      rw [nu_in (by omega), nu_ix (by omega), hw _ (by omega)]
      refine ⟨by omega, ?_⟩
      by_cases c : sl_w D n sz p (mv_ v) = px_wl.getD (mv_ v) 0
      · have e : i = px_wl.getD (mv_ v) 0 := by omega
        rw [e, o4, if_neg (show ¬ (32 : Int32) < nu_i 32 by decide), if_neg (show ¬ (32 : Int32) < nu_i 32 by decide), nu_bT (ww_f o1 c)]
        exact ⟨by omega, rfl, rfl⟩
      · have hi3 : i < px_wl.getD (mv_ v) 0 := by omega
        have hg := hgt i hi3
        have hbad : ¬ jv_ D n sz (p + i) = nu_i (wl_.getD (of_ v + i) 0) := by
          have := hat.1 (show sl_w D n sz p (mv_ v) < _ by omega)
          rw [(o7 i hi3).1, show i = sl_w D n sz p (mv_ v) by omega]
          simpa [sl_w] using this
        have hF : ¬ wq_ D n sz p = mv_ v := by
          intro z
          refine c ?_
          have h8 := (fi_at (fun w => decide (sl_w D n sz p w = px_wl.getD w 0)) 11).1 (show wq_ D n sz p < 11 by omega)
          have h9 : sl_w D n sz p (wq_ D n sz p) = px_wl.getD (wq_ D n sz p) 0 := of_decide_eq_true h8
          rw [z] at h9; exact h9
        rw [if_pos hg, h1, h3, nu_bF hF]
        by_cases c3 : p + i < sz
        · rw [if_pos (nu_ltp (by omega) c3), nu_add, nu_in (by omega), nu_ix (by omega)]
          refine ⟨by omega, by omega, ?_⟩
          have ej : jv_ D n sz (p + i) = Int64.toInt32 (D.2 108 (120 * n + (p + i))) := if_pos c3
          rw [ej] at hbad
          rw [if_neg hbad, if_pos hg]
          exact ⟨by omega, rfl, rfl⟩
        · rw [if_neg (nu_ltx (by omega) c3), if_pos hg]
          exact ⟨by omega, rfl, rfl⟩
    | succ r ih =>
      intro i hi
      have hi3 : i < px_wl.getD (mv_ v) 0 := by omega
      have hg := hgt i hi3
      have hok : jv_ D n sz (p + i) = nu_i (wl_.getD (of_ v + i) 0) := by
        rw [(o7 i hi3).1]
        exact sl_at (by omega)
      have c3 : p + i < sz := by
        refine Decidable.byContradiction fun c => ?_
        unfold jv_ at hok
        rw [if_neg c] at hok
        rw [← hok] at hg
        exact absurd hg (by decide)
      have ej : jv_ D n sz (p + i) = Int64.toInt32 (D.2 108 (120 * n + (p + i))) := if_pos c3
      rw [ej] at hok
      refine pu_u189_37 ?_
      rw [nu_in (by omega), nu_ix (by omega), hw _ (by omega), if_pos hg, h1, h3, if_pos (nu_ltp (by omega) c3), nu_add, nu_in (by omega), nu_ix (by omega), if_pos hok, nu_addn, nu_addn]
      exact ⟨by omega, by omega, by omega, ih (i + 1) (by omega)⟩
  have k1 : ∀ r c, c + r = of_ v → pu_h189_4 X (nu_i v) (nu_i c) (nu_i (zc_ c)) D (fun y D' => y = nu_b (wq_ D n sz p = mv_ v) ∧ D' = D) := by
    intro r
    induction r with
    | zero =>
      intro c hc
      have e : c = of_ v := by omega
      subst e
      refine pu_u189_4 ?_
      rw [o6, if_neg (nu_ltx (by omega) (Nat.lt_irrefl _)), h2]
      exact k2 _ 0 (Nat.zero_add _)
    | succ r ih =>
      intro c hc
      have h8 := o8 c (by omega)
      have h9 := ih (c + 1) (by omega)
      refine pu_u189_4 ?_
      rw [if_pos (nu_ltp (by omega) h8), nu_in (by omega), nu_ix (by omega), hw _ (by omega)]
      refine ⟨by omega, ?_⟩
      rw [zc_s] at h9
      have hb := wl_b (i := c) (by omega)
      by_cases cz : wl_.getD c 0 = 0
      · rw [if_pos cz] at h9
        rw [if_pos (by rw [cz]; rfl), nu_addn, nu_addn]; exact h9
      · rw [if_neg cz] at h9
        rw [if_neg (by rw [show (0 : Int32) = nu_i 0 from rfl, nu_eq (by omega) (by omega)]; exact cz), nu_addn, show nu_i (zc_ c) + 0 = nu_i (zc_ c + 0) from nu_add (zc_ c) 0]; exact h9
  exact k1 _ 0 (Nat.zero_add _)
end WD
