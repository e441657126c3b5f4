/-! THE LAW'S START: what the Statement gives of it, as the pure machine wants it. -/
def px_flat : List Cond := flatC (Jvm.Cond.and given_1 narrow_1)
def px_fin1 (w : Cond) : Bool := decide (w ∈ px_flat)
def px_tmS (i : Nat) : Term := .string "LightAlong" (350 + 2 * i)
def px_sq0 (i : Nat) : Bool := px_fin1 (.exactly (px_tmS i) "java/lang/String") && px_fin1 (.eq (.field (px_tmS i) "java/lang/String" "coder" "B") (.int 0)) && px_fin1 (.arrayOf (.field (px_tmS i) "java/lang/String" "value" "[B") .byte) && px_fin1 (.eq (.length (.field (px_tmS i) "java/lang/String" "value" "[B")) (.int (Int32.ofNat (px_wl.getD i 0)))) &&
  ((List.range (px_wl.getD i 0)).all fun j => px_fin1 (.eq (.elem (.field (px_tmS i) "java/lang/String" "value" "[B") (.int (Int32.ofNat j))) (.int ((px_wb.getD i []).getD j 0)))) && ((List.range 11).all fun j => decide (i = j) || px_fin1 (.not (.eq (px_tmS i) (px_tmS j))) || px_fin1 (.not (.eq (px_tmS j) (px_tmS i))))
set_option maxRecDepth 100000 in
theorem px_sqk0 : px_sq0 0 = true := by decide +kernel
set_option maxRecDepth 100000 in
theorem px_sqk1 : px_sq0 1 = true := by decide +kernel
set_option maxRecDepth 100000 in
theorem px_sqk2 : px_sq0 2 = true := by decide +kernel
set_option maxRecDepth 100000 in
theorem px_sqk3 : px_sq0 3 = true := by decide +kernel
set_option maxRecDepth 100000 in
theorem px_sqk4 : px_sq0 4 = true := by decide +kernel
set_option maxRecDepth 100000 in
theorem px_sqk5 : px_sq0 5 = true := by decide +kernel
set_option maxRecDepth 100000 in
theorem px_sqk6 : px_sq0 6 = true := by decide +kernel
set_option maxRecDepth 100000 in
theorem px_sqk7 : px_sq0 7 = true := by decide +kernel
set_option maxRecDepth 100000 in
theorem px_sqk8 : px_sq0 8 = true := by decide +kernel
set_option maxRecDepth 100000 in
theorem px_sqk9 : px_sq0 9 = true := by decide +kernel
set_option maxRecDepth 100000 in
theorem px_sqk10 : px_sq0 10 = true := by decide +kernel
theorem px_sq_ok {i : Nat} (hi : i < 11) : px_sq0 i = true := by
  rcases (show i = 0 ∨ i = 1 ∨ i = 2 ∨ i = 3 ∨ i = 4 ∨ i = 5 ∨ i = 6 ∨ i = 7 ∨ i = 8 ∨ i = 9 ∨ i = 10 by omega) with rfl | rfl | rfl | rfl | rfl | rfl | rfl | rfl | rfl | rfl | rfl
  · exact px_sqk0
  · exact px_sqk1
  · exact px_sqk2
  · exact px_sqk3
  · exact px_sqk4
  · exact px_sqk5
  · exact px_sqk6
  · exact px_sqk7
  · exact px_sqk8
  · exact px_sqk9
  · exact px_sqk10
def px_tmT (a : Nat) : Term := .static (px_sn a).1 (px_sn a).2.1 (px_sn a).2.2
def px_an (a : Nat) : Nat := (px_ia.getD a []).length
def px_at0 (a : Nat) : Bool := px_fin1 (.arrayOf (px_tmT a) .int) && px_fin1 (.eq (.length (px_tmT a)) (.int (Int32.ofNat (px_an a)))) && decide (px_an a < 100) &&
  ((List.range (px_an a)).all fun j => px_fin1 (.eq (.elem (px_tmT a) (.int (Int32.ofNat j))) (.int ((px_ia.getD a []).getD j 0))))
set_option maxRecDepth 100000 in
theorem px_at_ok : (List.range 4).all px_at0 = true := by decide +kernel
set_option maxRecDepth 100000 in
theorem px_as_ok : (px_fin1 (.eq (px_tmT 4) (.int 1)) && px_fin1 (.isRef (px_tmT 5))) = true := by decide +kernel
def px_zt (a : Nat) : Bool := decide (Cond.laysStatic (px_sn a).1 (px_sn a).2.1 (px_sn a).2.2 ∈ lw_tbl) && decide (Cond.initialized (px_sn a).1 ∈ lw_tbl)
set_option maxRecDepth 100000 in
theorem px_zt_ok : (List.range 6).all px_zt = true := by decide +kernel
set_option maxRecDepth 100000 in
theorem px_sr_ok : (List.range 11).all (fun i => decide (Cond.stringRef "LightAlong" (350 + 2 * i) (px_tx i) ∈ lw_tbl)) = true := by decide +kernel
set_option maxRecDepth 100000 in
theorem px_in_ok : (List.range 9).all (fun c => decide (Cond.instantiable (px_cl c) (px_nf c) ∈ lw_tbl)) = true := by decide +kernel
set_option maxRecDepth 100000 in
theorem px_ao_ok : decide (Cond.arrayOver (.object "LightAlong$Shelf") ∈ lw_tbl) = true := by decide +kernel
theorem px_zo {args : Array Value} {s : State} {A : Nat → Prop} (hts : ∀ w ∈ lw_tbl, w.before args s = true) {a : Nat} (ha : a < 6) {v : Value} (hv : (px_tmT a).eval args s none [] s = some v) (hA : ∀ a : Nat, a < s.heap.size → ¬ A a) : va_Z (px_sn a).1 (px_sn a).2.1 (px_sn a).2.2 v A s s.heap := by
  have h := List.all_eq_true.mp px_zt_ok a (List.mem_range.mpr ha)
  simp only [px_zt, Bool.and_eq_true, decide_eq_true_eq] at h
  exact va_Zof (hts _ h.1) (hts _ h.2) hv hA
/-- the outside at the law's start -/
theorem px_Ex_start {args : Array Value} {s : State} {b L : Nat} {xs : Nat → Int32} (hts : ∀ w ∈ lw_tbl, w.before args s = true) (hgv : ∀ w ∈ px_flat, w.before args s = true) (hX : va_X b L xs s s.heap) (hbl : b < s.heap.size) :
    ∃ (ad : Nat → Nat) (z : Value), ad 1300 = b ∧ px_Ex ad z (L, xs) (fun q : Nat => s.heap.size ≤ q) s s.heap := by
  have hA : ∀ a : Nat, a < s.heap.size → ¬ (fun q : Nat => s.heap.size ≤ q) a := fun a h => Nat.not_le.mpr h
  have hf : ∀ w, px_fin1 w = true → w.before args s = true := fun w h => hgv w (of_decide_eq_true h)
  have hsq : ∀ i, i < 11 → px_sq0 i = true := fun i hi => px_sq_ok hi
  have hsq' : ∀ i, i < 11 → _ := fun i hi => by
    have h := hsq i hi
    simp only [px_sq0, Bool.and_eq_true] at h
    exact h
  obtain ⟨adK, adV, hS, hev⟩ := vk_Sof (args := args) (s := s) (N := 11) (tm := px_tmS) (len := px_wl) (byt := px_wb) (A := fun q : Nat => s.heap.size ≤ q)
    (fun i hi => by
      rcases (show i = 0 ∨ i = 1 ∨ i = 2 ∨ i = 3 ∨ i = 4 ∨ i = 5 ∨ i = 6 ∨ i = 7 ∨ i = 8 ∨ i = 9 ∨ i = 10 by omega) with rfl | rfl | rfl | rfl | rfl | rfl | rfl | rfl | rfl | rfl | rfl <;> decide)
    (fun i hi => hf _ (hsq' i hi).1.1.1.1.1) (fun i hi => hf _ (hsq' i hi).1.1.1.1.2) (fun i hi => hf _ (hsq' i hi).1.1.1.2) (fun i hi => hf _ (hsq' i hi).1.1.2)
    (fun i hi j hj => hf _ (List.all_eq_true.mp (hsq' i hi).1.2 j (List.mem_range.mpr hj)))
    (fun i j hi hj hij => by
      have := List.all_eq_true.mp (hsq' i hi).2 j (List.mem_range.mpr hj)
      simp only [Bool.or_eq_true, decide_eq_true_eq] at this
      rcases this with (h | h) | h
      · exact absurd h hij
      · exact Or.inl (hf _ h)
      · exact Or.inr (hf _ h)) hA
  have hT : ∀ a : Nat, ∃ t : Nat, a < 4 → (px_tmT a).eval args s none [] s = some (.ref t) ∧ va_T .int t (px_an a) (fun j => .int ((px_ia.getD a []).getD j 0)) (fun q : Nat => s.heap.size ≤ q) s s.heap := by
    intro a
    by_cases ha : a < 4
    · have h := List.all_eq_true.mp px_at_ok a (List.mem_range.mpr ha)
      simp only [px_at0, Bool.and_eq_true, decide_eq_true_eq] at h
      obtain ⟨t, h1, h2⟩ := va_Tof (args := args) (s := s) (tm := px_tmT a) (ty := .int) (N := px_an a) (f := fun j => .int ((px_ia.getD a []).getD j 0)) (A := fun q : Nat => s.heap.size ≤ q) (by have := h.1.2; omega) (hf _ h.1.1.1) (va_eqt (hf _ h.1.1.2)) (fun j hj => va_eqt (hf _ (List.all_eq_true.mp h.2 j (List.mem_range.mpr hj)))) hA
      exact ⟨t, fun _ => ⟨h1, h2⟩⟩
    · exact ⟨0, fun h => absurd h ha⟩
  obtain ⟨T, hT⟩ : ∃ T : Nat → Nat, ∀ a, a < 4 → (px_tmT a).eval args s none [] s = some (.ref (T a)) ∧ va_T .int (T a) (px_an a) (fun j => .int ((px_ia.getD a []).getD j 0)) (fun q : Nat => s.heap.size ≤ q) s s.heap :=
    ⟨fun a => Classical.choose (hT a), fun a ha => Classical.choose_spec (hT a) ha⟩
  have has := px_as_ok
  simp only [Bool.and_eq_true] at has
  have hz4 := px_zo hts (show 4 < 6 by decide) (va_eqt (hf _ has.1)) hA
  have hz5 : va_Zq (px_sn 5).1 (px_sn 5).2.1 (px_sn 5).2.2 (fun q : Nat => s.heap.size ≤ q) s s.heap := by
    have h := List.all_eq_true.mp px_zt_ok 5 (List.mem_range.mpr (by decide))
    simp only [px_zt, Bool.and_eq_true, decide_eq_true_eq] at h
    exact va_Zqof (hts _ h.1) (hts _ h.2) (hf _ has.2) hA
  obtain ⟨z, hzc, hz5⟩ : ∃ z : Value, z.category = 1 ∧ va_Z (px_sn 5).1 (px_sn 5).2.1 (px_sn 5).2.2 z (fun q : Nat => s.heap.size ≤ q) s s.heap := by
    rcases hz5 with h | ⟨t, h⟩
    · exact ⟨.null, rfl, h⟩
    · exact ⟨.ref t, rfl, h⟩
  refine ⟨fun i => if 1300 ≤ i then b else if 1200 ≤ i then T (i - 1200) else if 1100 ≤ i then adV (i - 1100) else adK (i - 1000), z, if_pos (by decide), ?_⟩
  have eK : ∀ i, i < 11 → (if 1300 ≤ 1000 + i then b else if 1200 ≤ 1000 + i then T (1000 + i - 1200) else if 1100 ≤ 1000 + i then adV (1000 + i - 1100) else adK (1000 + i - 1000)) = adK i := fun i hi => by
    rw [if_neg (by omega), if_neg (by omega), if_neg (by omega), show 1000 + i - 1000 = i by omega]
  have eV : ∀ i, i < 11 → (if 1300 ≤ 1100 + i then b else if 1200 ≤ 1100 + i then T (1100 + i - 1200) else if 1100 ≤ 1100 + i then adV (1100 + i - 1100) else adK (1100 + i - 1000)) = adV i := fun i hi => by
    rw [if_neg (by omega), if_neg (by omega), if_pos (by omega), show 1100 + i - 1100 = i by omega]
  have eT : ∀ a, a < 4 → (if 1300 ≤ 1200 + a then b else if 1200 ≤ 1200 + a then T (1200 + a - 1200) else if 1100 ≤ 1200 + a then adV (1200 + a - 1100) else adK (1200 + a - 1000)) = T a := fun a ha => by
    rw [if_neg (by omega), if_pos (by omega), show 1200 + a - 1200 = a by omega]
  refine ⟨fun w hw => ?_, ?_, hzc, ⟨fun i hi => ?_, fun i j hi hj h => ?_⟩, fun i hi => ?_, fun q n f hx => ?_, fun a ha => ?_, hz4, hz5⟩
  · have hk := px_Tn_kind hw
    have hw2 := hts w (List.mem_filter.mp hw).1
    unfold px_isN at hk
    split at hk
    · exact va_Nw.of rfl hw2
    · exact va_Nw.of rfl hw2
    · cases hk
  · exact va_AO.of (hts _ (of_decide_eq_true px_ao_ok))
  · have := hS.1 i hi
    dsimp only
    rw [eK i hi, eV i hi]
    exact this
  · dsimp only at h
    rw [eK i hi, eK j hj] at h
    exact hS.2 i j hi hj h
  · dsimp only
    rw [eK i hi]
    have h1 := List.all_eq_true.mp px_sr_ok i (List.mem_range.mpr hi)
    exact vk_R.of (hts _ (of_decide_eq_true h1)) (hev i hi)
  · unfold px_xa at hx
    split at hx
    · rename_i hq
      subst hq
      cases hx
      show va_T .int (if 1300 ≤ 1300 then b else _) _ _ _ _ _
      rw [if_pos (Nat.le_refl _)]
      obtain ⟨scr, h1, h2, h3, h4, h5⟩ := hX
      exact ⟨scr, h1, h2, h3, Nat.le_of_eq h4.symm, by rw [h4], h5, Nat.not_le.mpr hbl⟩
    · split at hx
      · cases hx
      · rename_i hq1 hq2
        cases hl : px_ia[q - 1200]? with
        | none => rw [hl] at hx; cases hx
        | some l =>
          rw [hl] at hx
          simp only [Option.map_some, Option.some.injEq, Prod.mk.injEq] at hx
          obtain ⟨rfl, rfl⟩ := hx
          have hl4 : q - 1200 < 4 := (List.getElem?_eq_some_iff.mp hl).1
          have e := eT (q - 1200) hl4
          rw [show 1200 + (q - 1200) = q by omega] at e
          dsimp only
          rw [e]
          have h2 := (hT (q - 1200) hl4).2
          have h3 : px_ia.getD (q - 1200) [] = l := by rw [List.getD_eq_getElem?_getD, hl]; rfl
          unfold px_an at h2
          simp only [h3] at h2
          exact h2
  · dsimp only
    rw [eT a ha]
    exact px_zo hts (by omega) (hT a ha).1 hA
