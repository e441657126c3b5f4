/-! RUNS OF THE PURE MACHINE OVER THE MADE OBJECTS: what must hold ahead so that a method ends well; a rule an instruction. -/
abbrev pu_D : Type := (Nat → Nat → Int32) × (Nat → Nat → Int64)
def pu_G : List px_S := [(7, 11, [some 1, some 17, some 33, none, some 49, some 50, some 52, some 56, some 66, some 68, none]), (4, 8, [some 2, some 3, some 5, some 7, some 9, some 11, some 13, some 15]), (100, 4, []), (6, 3, [none, some 4, none]), (100, 24, []), (6, 3, [none, some 6, none]), (100, 36, []), (6, 3, [none, some 8, none]), (100, 48, []), (6, 3, [none, some 10, none]), (100, 48, []), (6, 3, [none, some 12, none]), (100, 48, []), (6, 3, [none, some 14, none]), (100, 32, []), (6, 3, [none, some 16, none]), (100, 24, []), (4, 8, [some 18, some 19, some 21, some 23, some 25, some 27, some 29, some 31]), (100, 4, []), (6, 3, [none, some 20, none]), (100, 24, []), (6, 3, [none, some 22, none]), (100, 36, []), (6, 3, [none, some 24, none]), (100, 48, []), (6, 3, [none, some 26, none]), (100, 48, []), (6, 3, [none, some 28, none]), (100, 48, []), (6, 3, [none, some 30, none]), (100, 32, []), (6, 3, [none, some 32, none]), (100, 24, []), (4, 8, [some 34, some 35, some 37, some 39, some 41, some 43, some 45, some 47]), (100, 4, []), (6, 3, [none, some 36, none]), (100, 24, []), (6, 3, [none, some 38, none]), (100, 36, []), (6, 3, [none, some 40, none]), (100, 48, []), (6, 3, [none, some 42, none]), (100, 48, []), (6, 3, [none, some 44, none]), (100, 48, []), (6, 3, [none, some 46, none]), (100, 32, []), (6, 3, [none, some 48, none]), (100, 24, []), (103, 8, [some 69, some 71, some 73, some 75, some 77, some 79, some 81, some 83]), (5, 3, [some 51, none, none]), (100, 4, []), (2, 4, [some 53, some 54, some 55, none]), (101, 120, []), (100, 120, []), (100, 120, []), (1, 8, [some 57, some 58, some 59, some 60, some 61, some 62, none, none]), (100, 1080, []), (100, 120, []), (100, 120, []), (100, 120, []), (100, 9, []), (2, 4, [some 63, some 64, some 65, none]), (101, 120, []), (100, 120, []), (100, 120, []), (0, 5, [some 67, none, none, none, none]), (100, 20, []), (100, 8, []), (3, 5, [some 70, none, none, none, none]), (102, 120, []), (3, 5, [some 72, none, none, none, none]), (102, 120, []), (3, 5, [some 74, none, none, none, none]), (102, 120, []), (3, 5, [some 76, none, none, none, none]), (102, 120, []), (3, 5, [some 78, none, none, none, none]), (102, 120, []), (3, 5, [some 80, none, none, none, none]), (102, 120, []), (3, 5, [some 82, none, none, none, none]), (102, 120, []), (3, 5, [some 84, none, none, none, none]), (102, 120, []), (8, 52, [none, none, none, none, none, none, none, none, none, none, none, none, some 86, some 87, some 88, some 89, some 90, some 91, some 92, some 93, some 94, some 95, some 96, some 97, some 98, some 99, some 100, some 101, some 102, some 103, some 104, some 105, some 106, some 107, some 108, some 109, some 110, none, none, none, none, none, some 111, some 112, some 113, none, some 114, some 115, some 116, none, some 117, none]), (100, 8, []), (100, 6, []), (100, 6, []), (100, 6, []), (100, 6, []), (100, 9, []), (100, 9, []), (100, 9, []), (100, 9, []), (100, 12, []), (100, 12, []), (100, 12, []), (100, 12, []), (100, 8, []), (100, 8, []), (100, 8, []), (100, 6, []), (100, 8, []), (100, 8, []), (100, 8, []), (100, 8, []), (100, 8, []), (102, 960, []), (102, 120, []), (100, 70, []), (100, 11, []), (100, 180, []), (100, 120, []), (100, 1080, []), (100, 120, []), (100, 20, []), (100, 11, [])]
def pu_cl (q : Nat) : Nat := (pu_G.getD q (999, 0, [])).1
def pu_ln (q : Nat) : Nat := (pu_G.getD q (999, 0, [])).2.1
def pu_rs (q : Nat) : List (Option Nat) := (pu_G.getD q (999, 0, [])).2.2
def pu_rf (q b : Nat) : Nat := ((pu_rs q).getD b none).getD 0
/-- a word of an int cell, of a long cell becomes y -/
def pu_wi (D : pu_D) (q j : Nat) (y : Int32) : pu_D := (px_up D.1 q j y, D.2)
def pu_wl (D : pu_D) (q j : Nat) (y : Int64) : pu_D := (D.1, px_upL D.2 q j y)
def pu_W (X : px_X) (k : Nat) (rem : Nat × Nat) (suf : List px_I) (L st : List Value) (D : pu_D) (Q : Option Value → pu_D → Prop) : Prop := ∃ (N : Nat) (r : Option Value) (D' : pu_D), px_run X N k rem suf L st (pu_G, D) = some (r, (pu_G, D')) ∧ Q r D'
def pu_C (X : px_X) (a : Nat) (vs : List Value) (D : pu_D) (Q : Option Value → pu_D → Prop) : Prop := pu_W X a (px_mc a, px_ms a) (px_ct a) (px_ent vs (px_mx a)) [] D Q
def pu_qi (P : Int32 → pu_D → Prop) : Option Value → pu_D → Prop := fun r D => ∃ y, r = some (.int y) ∧ P y D
def pu_qj (P : Int64 → pu_D → Prop) : Option Value → pu_D → Prop := fun r D => ∃ y, r = some (.long y) ∧ P y D
def pu_qr (P : Nat → pu_D → Prop) : Option Value → pu_D → Prop := fun r D => ∃ y, r = some (.ref y) ∧ P y D
def pu_qv (P : pu_D → Prop) : Option Value → pu_D → Prop := fun r D => r = none ∧ P D
def pu_I (X : px_X) (a : Nat) (vs : List Value) (D : pu_D) (P : Int32 → pu_D → Prop) : Prop := pu_C X a vs D (pu_qi P)
def pu_J (X : px_X) (a : Nat) (vs : List Value) (D : pu_D) (P : Int64 → pu_D → Prop) : Prop := pu_C X a vs D (pu_qj P)
def pu_R (X : px_X) (a : Nat) (vs : List Value) (D : pu_D) (P : Nat → pu_D → Prop) : Prop := pu_C X a vs D (pu_qr P)
def pu_V (X : px_X) (a : Nat) (vs : List Value) (D : pu_D) (P : pu_D → Prop) : Prop := pu_C X a vs D (pu_qv P)
theorem pu_ms {X : px_X} {N k : Nat} {rem : Nat × Nat} {suf : List px_I} {o : Option Value × px_H} (ih : ∀ k rem suf L st h o, px_run X N k rem suf L st h = some o → px_run X (N + 1) k rem suf L st h = some o) (r : Option px_R) :
    (match r with
      | some (none, L, st', h) => px_run X N k rem suf L st' h
      | some (some t, L, st', h) => px_run X N k rem (px_to k t) L st' h
      | none => none) = some o →
    (match r with
      | some (none, L, st', h) => px_run X (N + 1) k rem suf L st' h
      | some (some t, L, st', h) => px_run X (N + 1) k rem (px_to k t) L st' h
      | none => none) = some o := by
  intro h
  rcases r with _ | ⟨_ | t, L, st', hh⟩
  · cases h
  · exact ih _ _ _ _ _ _ _ h
  · exact ih _ _ _ _ _ _ _ h
set_option maxHeartbeats 2000000 in
theorem pu_mono {X : px_X} : ∀ (N k : Nat) (rem : Nat × Nat) (suf : List px_I) (L st : List Value) (h : px_H) (o : Option Value × px_H), px_run X N k rem suf L st h = some o → px_run X (N + 1) k rem suf L st h = some o
  | 0, _, _, _, _, _, _, _, h => by cases h
  | _ + 1, _, _, [], _, _, _, _, h => by cases h
  | N + 1, k, rem, (pc, i, len, a, b, v) :: suf, L, st, h, o, hr => by
    have ih := pu_mono (X := X) N
    have hc : ∀ kd : Nat, (if px_cok kd a b rem L st h.1 = true then
          (match px_run X N a (px_mc a, px_ms a) (px_ct a) (px_ent (st.take b).reverse (px_mx a)) [] h with
          | some (r, h') => if (if px_mc a = 0 then decide (h'.1.length = h.1.length) else decide (h'.1.length ≤ 1000)) = true then px_run X N k (rem.1 - px_mc a, rem.2 - px_ms a) suf L (r.toList ++ st.drop b) h' else none
          | none => none) else none) = some o →
        (if px_cok kd a b rem L st h.1 = true then
          (match px_run X (N + 1) a (px_mc a, px_ms a) (px_ct a) (px_ent (st.take b).reverse (px_mx a)) [] h with
          | some (r, h') => if (if px_mc a = 0 then decide (h'.1.length = h.1.length) else decide (h'.1.length ≤ 1000)) = true then px_run X (N + 1) k (rem.1 - px_mc a, rem.2 - px_ms a) suf L (r.toList ++ st.drop b) h' else none
          | none => none) else none) = some o := by
      intro kd h1
      by_cases hk : px_cok kd a b rem L st h.1 = true
      · rw [if_pos hk] at h1 ⊢
        cases hq : px_run X N a (px_mc a, px_ms a) (px_ct a) (px_ent (st.take b).reverse (px_mx a)) [] h with
        | none => rw [hq] at h1; cases h1
        | some w =>
          obtain ⟨r, h'⟩ := w
          rw [hq] at h1
          rw [ih _ _ _ _ _ _ _ hq]
          dsimp only at h1 ⊢
          generalize hg : (if px_mc a = 0 then decide (h'.1.length = h.1.length) else decide (h'.1.length ≤ 1000)) = g at h1 ⊢
          cases g
          · cases h1
          · exact ih _ _ _ _ _ _ _ h1
      · rw [if_neg hk] at h1; cases h1
    cases i
    case invokevirtual idx => exact hc 0 hr
    case invokespecial idx =>
      unfold px_run at hr ⊢
      dsimp only at hr ⊢
      by_cases h9 : a = 9000
      · rw [if_pos h9] at hr ⊢
        split at hr
        · split at hr
          · rename_i h8; rw [if_pos h8]; exact ih _ _ _ _ _ _ _ hr
          · cases hr
        · cases hr
      · rw [if_neg h9] at hr ⊢; exact hc 2 hr
    case invokestatic idx =>
      unfold px_run at hr ⊢
      dsimp only at hr ⊢
      by_cases h1 : a = 9001
      · rw [if_pos h1] at hr ⊢
        split at hr
        · split at hr
          · rename_i h8; rw [if_pos h8]
            split at hr
            · exact ih _ _ _ _ _ _ _ hr
            · cases hr
          · cases hr
        · cases hr
      · rw [if_neg h1] at hr ⊢
        by_cases h2 : a = 9002
        · rw [if_pos h2] at hr ⊢
          split at hr
          · split at hr
            · rename_i h8; rw [if_pos h8]; exact ih _ _ _ _ _ _ _ hr
            · cases hr
          · cases hr
        · rw [if_neg h2] at hr ⊢
          by_cases h3 : a = 9003
          · rw [if_pos h3] at hr ⊢
            split at hr
            · split at hr
              · rename_i h8; rw [if_pos h8]; exact ih _ _ _ _ _ _ _ hr
              · cases hr
            · cases hr
          · rw [if_neg h3] at hr ⊢
            by_cases h4 : a = 9004
            · rw [if_pos h4] at hr ⊢
              split at hr
              · split at hr
                · rename_i h8; rw [if_pos h8]; exact ih _ _ _ _ _ _ _ hr
                · cases hr
              · cases hr
            · rw [if_neg h4] at hr ⊢; exact hc 1 hr
    all_goals first | exact hr | exact pu_ms ih _ hr | exact ih _ _ _ _ _ _ _ hr
theorem pu_le {X : px_X} {N M k : Nat} {rem : Nat × Nat} {suf : List px_I} {L st : List Value} {h : px_H} {o : Option Value × px_H} (hNM : N ≤ M) (hr : px_run X N k rem suf L st h = some o) : px_run X M k rem suf L st h = some o := by
  induction hNM with
  | refl => exact hr
  | step _ ih => exact pu_mono _ _ _ _ _ _ _ _ ih
theorem pu_det {X : px_X} {N M k : Nat} {rem : Nat × Nat} {suf : List px_I} {L st : List Value} {h : px_H} {o o' : Option Value × px_H} (h1 : px_run X N k rem suf L st h = some o) (h2 : px_run X M k rem suf L st h = some o') : o = o' := by
  have a := pu_le (Nat.le_max_left N M) h1
  have b := pu_le (Nat.le_max_right N M) h2
  rw [a] at b
  exact Option.some.inj b
theorem pu_W_imp {X : px_X} {k : Nat} {rem : Nat × Nat} {suf : List px_I} {L st : List Value} {D : pu_D} {Q Q' : Option Value → pu_D → Prop} (h : pu_W X k rem suf L st D Q) (hQ : ∀ r D', Q r D' → Q' r D') : pu_W X k rem suf L st D Q' := by
  obtain ⟨N, r, D', h1, h2⟩ := h
  exact ⟨N, r, D', h1, hQ _ _ h2⟩
section PUC
variable {X : px_X} {a : Nat} {vs : List Value} {D : pu_D}
theorem pu_I_imp {P P' : Int32 → pu_D → Prop} (h : pu_I X a vs D P) (hP : ∀ y D', P y D' → P' y D') : pu_I X a vs D P' := pu_W_imp h fun _ _ ⟨y, e, h⟩ => ⟨y, e, hP _ _ h⟩
theorem pu_J_imp {P P' : Int64 → pu_D → Prop} (h : pu_J X a vs D P) (hP : ∀ y D', P y D' → P' y D') : pu_J X a vs D P' := pu_W_imp h fun _ _ ⟨y, e, h⟩ => ⟨y, e, hP _ _ h⟩
theorem pu_R_imp {P P' : Nat → pu_D → Prop} (h : pu_R X a vs D P) (hP : ∀ y D', P y D' → P' y D') : pu_R X a vs D P' := pu_W_imp h fun _ _ ⟨y, e, h⟩ => ⟨y, e, hP _ _ h⟩
theorem pu_V_imp {P P' : pu_D → Prop} (h : pu_V X a vs D P) (hP : ∀ D', P D' → P' D') : pu_V X a vs D P' := pu_W_imp h fun _ _ ⟨e, h⟩ => ⟨e, hP _ h⟩
/-- a call whose end is known may be written as its end -/
theorem pu_I_of {y0 : Int32} {D0 : pu_D} (h : pu_I X a vs D (fun y D' => y = y0 ∧ D' = D0)) (P : Int32 → pu_D → Prop) : pu_I X a vs D P = P y0 D0 := by
  obtain ⟨N, r, D', h1, y, rfl, rfl, rfl⟩ := h
  refine propext ⟨fun hp => ?_, fun hp => ⟨N, _, _, h1, _, rfl, hp⟩⟩
  obtain ⟨M, r, D2, h2, y', rfl, hp⟩ := hp
  have := pu_det h1 h2
  simp only [Prod.mk.injEq, Option.some.injEq, Value.int.injEq, true_and] at this
  obtain ⟨rfl, rfl⟩ := this
  exact hp
theorem pu_J_of {y0 : Int64} {D0 : pu_D} (h : pu_J X a vs D (fun y D' => y = y0 ∧ D' = D0)) (P : Int64 → pu_D → Prop) : pu_J X a vs D P = P y0 D0 := by
  obtain ⟨N, r, D', h1, y, rfl, rfl, rfl⟩ := h
  refine propext ⟨fun hp => ?_, fun hp => ⟨N, _, _, h1, _, rfl, hp⟩⟩
  obtain ⟨M, r, D2, h2, y', rfl, hp⟩ := hp
  have := pu_det h1 h2
  simp only [Prod.mk.injEq, Option.some.injEq, Value.long.injEq, true_and] at this
  obtain ⟨rfl, rfl⟩ := this
  exact hp
theorem pu_R_of {y0 : Nat} {D0 : pu_D} (h : pu_R X a vs D (fun y D' => y = y0 ∧ D' = D0)) (P : Nat → pu_D → Prop) : pu_R X a vs D P = P y0 D0 := by
  obtain ⟨N, r, D', h1, y, rfl, rfl, rfl⟩ := h
  refine propext ⟨fun hp => ?_, fun hp => ⟨N, _, _, h1, _, rfl, hp⟩⟩
  obtain ⟨M, r, D2, h2, y', rfl, hp⟩ := hp
  have := pu_det h1 h2
  simp only [Prod.mk.injEq, Option.some.injEq, Value.ref.injEq, true_and] at this
  obtain ⟨rfl, rfl⟩ := this
  exact hp
theorem pu_V_of {D0 : pu_D} (h : pu_V X a vs D (fun D' => D' = D0)) (P : pu_D → Prop) : pu_V X a vs D P = P D0 := by
  obtain ⟨N, r, D', h1, rfl, rfl⟩ := h
  refine propext ⟨fun hp => ?_, fun hp => ⟨N, _, _, h1, rfl, hp⟩⟩
  obtain ⟨M, r, D2, h2, rfl, hp⟩ := hp
  have := pu_det h1 h2
  simp only [Prod.mk.injEq, Option.some.injEq, true_and] at this
  rw [this]
  exact hp
end PUC
theorem pu_t {c : Prop} {A B : Prop} {i : Decidable c} (h : c) (H : @ite Prop c i A B) : A := by rwa [if_pos h] at H
theorem pu_f {c : Prop} {A B : Prop} {i : Decidable c} (h : ¬ c) (H : @ite Prop c i A B) : B := by rwa [if_neg h] at H
/-! the made objects -/
theorem pu_lnB : (List.range 118).all (fun q => decide (9 ≤ pu_cl q) || decide (pu_ln q = px_nf (pu_cl q))) = true := by decide +kernel
theorem pu_len : pu_G.length = 118 := by decide +kernel
theorem pu_far {q c : Nat} (h : pu_cl q = c) (hc : c < 999) : q < 118 := by
  rcases Nat.lt_or_ge q 118 with h1 | h1
  · exact h1
  · unfold pu_cl at h
    rw [List.getD_eq_getElem?_getD, List.getElem?_eq_none (by rw [pu_len]; exact h1)] at h
    have : c = 999 := h.symm
    omega
theorem pu_at {q c : Nat} (h : pu_cl q = c) (hc : c < 999) : pu_G[q]? = some (c, pu_ln q, pu_rs q) ∧ q < 1000 := by
  have h1 := pu_far h hc
  refine ⟨?_, by omega⟩
  have hl : q < pu_G.length := by rw [pu_len]; exact h1
  subst h
  unfold pu_cl pu_ln pu_rs
  rw [List.getD_eq_getElem?_getD, List.getElem?_eq_getElem hl]
  rfl
theorem pu_nf {q c : Nat} (h : pu_cl q = c) (hc : c < 9) : pu_ln q = px_nf c := by
  have h1 := pu_far h (by omega)
  have := List.all_eq_true.mp pu_lnB q (List.mem_range.mpr h1)
  rw [h] at this
  simp only [Bool.or_eq_true, decide_eq_true_eq] at this
  omega
theorem pu_rfB : (List.range 118).all (fun q => decide (9 ≤ pu_cl q) || (List.range (px_nf (pu_cl q))).all (fun b => decide (px_kind (pu_cl q) b < 2) || decide ((pu_rs q).getD b none = some (pu_rf q b)))) = true := by decide +kernel
theorem pu_rfS {q c b : Nat} (h : pu_cl q = c) (hc : c < 9) (hb : b < px_nf c) (hk : ¬ px_kind c b < 2) : (pu_rs q).getD b none = some (pu_rf q b) := by
  have h1 := pu_far h (by omega)
  have h2 := List.all_eq_true.mp pu_rfB q (List.mem_range.mpr h1)
  simp only [Bool.or_eq_true, decide_eq_true_eq] at h2
  have h3 := List.all_eq_true.mp (h2.resolve_left (by omega)) b (List.mem_range.mpr (by rw [h]; exact hb))
  simp only [Bool.or_eq_true, decide_eq_true_eq] at h3
  exact h3.resolve_left (by rw [h]; exact hk)
theorem pu_shB : (List.range 8).all (fun j => decide ((pu_rs 49).getD j none = some (pu_rf 49 j)) && decide (pu_cl (pu_rf 49 j) = 3)) = true := by decide +kernel
theorem pu_in_lt {j : Int32} {n : Nat} (h : px_in j n = true) : j.toNatClampNeg < n := by
  simp only [px_in, Bool.and_eq_true, decide_eq_true_eq] at h
  exact h.2
theorem pu_sh {j : Int32} (h : px_in j 8 = true) : pu_cl (pu_rf 49 j.toNatClampNeg) = 3 := by
  have := List.all_eq_true.mp pu_shB _ (List.mem_range.mpr (pu_in_lt h))
  simp only [Bool.and_eq_true, decide_eq_true_eq] at this
  exact this.2
theorem pu_shS {j : Int32} (h : px_in j 8 = true) : (pu_rs 49).getD j.toNatClampNeg none = some (pu_rf 49 j.toNatClampNeg) := by
  have := List.all_eq_true.mp pu_shB _ (List.mem_range.mpr (pu_in_lt h))
  simp only [Bool.and_eq_true, decide_eq_true_eq] at this
  exact this.1
/-! the rules -/
section PUR
variable {X : px_X} {k : Nat} {rem : Nat × Nat} {pc n a b : Nat} {v : Int32} {suf : List px_I} {L st : List Value} {D : pu_D} {Q : Option Value → pu_D → Prop}
theorem pu_s0 {i : Instr} {L' st' : List Value} {D' : pu_D} (hrun : ∀ N, px_run X (N + 1) k rem ((pc, i, n, a, b, v) :: suf) L st (pu_G, D) = (match px_step X (px_ini k) rem pc i a b v L st (pu_G, D) with
      | some (none, L, st', h) => px_run X N k (px_remN rem i a st) suf L st' h
      | some (some t, L, st', h) => px_run X N k (px_remN rem i a st) (px_to k t) L st' h
      | none => none))
    (hs : px_step X (px_ini k) rem pc i a b v L st (pu_G, D) = some (none, L', st', (pu_G, D'))) (hr : px_remN rem i a st = rem) (H : pu_W X k rem suf L' st' D' Q) : pu_W X k rem ((pc, i, n, a, b, v) :: suf) L st D Q := by
  obtain ⟨N, r, D1, h1, h2⟩ := H
  refine ⟨N + 1, r, D1, ?_, h2⟩
  rw [hrun, hs]
  show px_run X N k (px_remN rem i a st) suf L' st' (pu_G, D') = _
  rw [hr]; exact h1
theorem pu_s1 {i : Instr} {t : Nat} {L' st' : List Value} {D' : pu_D} {suf' : List px_I} (hrun : ∀ N, px_run X (N + 1) k rem ((pc, i, n, a, b, v) :: suf) L st (pu_G, D) = (match px_step X (px_ini k) rem pc i a b v L st (pu_G, D) with
      | some (none, L, st', h) => px_run X N k (px_remN rem i a st) suf L st' h
      | some (some t, L, st', h) => px_run X N k (px_remN rem i a st) (px_to k t) L st' h
      | none => none))
    (hs : px_step X (px_ini k) rem pc i a b v L st (pu_G, D) = some (some t, L', st', (pu_G, D'))) (hr : px_remN rem i a st = rem) (ht : px_to k t = suf') (H : pu_W X k rem suf' L' st' D' Q) : pu_W X k rem ((pc, i, n, a, b, v) :: suf) L st D Q := by
  obtain ⟨N, r, D1, h1, h2⟩ := H
  refine ⟨N + 1, r, D1, ?_, h2⟩
  rw [hrun, hs]
  show px_run X N k (px_remN rem i a st) (px_to k t) L' st' (pu_G, D') = _
  rw [hr, ht]; exact h1
theorem pu_iconst {z : Int} (H : pu_W X k rem suf L (.int v :: st) D Q) : pu_W X k rem ((pc, .iconst z, n, a, b, v) :: suf) L st D Q := pu_s0 (fun _ => rfl) rfl rfl H
theorem pu_bipush {z : Int} (H : pu_W X k rem suf L (.int v :: st) D Q) : pu_W X k rem ((pc, .bipush z, n, a, b, v) :: suf) L st D Q := pu_s0 (fun _ => rfl) rfl rfl H
theorem pu_sipush {z : Int} (H : pu_W X k rem suf L (.int v :: st) D Q) : pu_W X k rem ((pc, .sipush z, n, a, b, v) :: suf) L st D Q := pu_s0 (fun _ => rfl) rfl rfl H
theorem pu_lconst {z : Fin 2} (H : pu_W X k rem suf L (.long (Int64.ofNat z) :: st) D Q) : pu_W X k rem ((pc, .lconst z, n, a, b, v) :: suf) L st D Q := pu_s0 (fun _ => rfl) rfl rfl H
theorem pu_ldc {z : Nat} (h : ¬ 1000 ≤ a) (H : pu_W X k rem suf L (.int v :: st) D Q) : pu_W X k rem ((pc, .ldc z, n, a, b, v) :: suf) L st D Q := pu_s0 (fun _ => rfl) (by simp only [px_step, if_neg h]) rfl H
theorem pu_ldc_w {z : Nat} (h : ¬ 1000 ≤ a) (H : pu_W X k rem suf L (.int v :: st) D Q) : pu_W X k rem ((pc, .ldc_w z, n, a, b, v) :: suf) L st D Q := pu_s0 (fun _ => rfl) (by simp only [px_step, if_neg h]) rfl H
theorem pu_ldcR {z : Nat} (h : 1000 ≤ a) (H : pu_W X k rem suf L (.ref a :: st) D Q) : pu_W X k rem ((pc, .ldc z, n, a, b, v) :: suf) L st D Q := pu_s0 (fun _ => rfl) (by simp only [px_step, if_pos h]) rfl H
theorem pu_ldcR_w {z : Nat} (h : 1000 ≤ a) (H : pu_W X k rem suf L (.ref a :: st) D Q) : pu_W X k rem ((pc, .ldc_w z, n, a, b, v) :: suf) L st D Q := pu_s0 (fun _ => rfl) (by simp only [px_step, if_pos h]) rfl H
theorem pu_ldc2_w {z : Nat} (H : pu_W X k rem suf L (.long 4294967295 :: st) D Q) : pu_W X k rem ((pc, .ldc2_w z, n, a, b, v) :: suf) L st D Q := pu_s0 (fun _ => rfl) rfl rfl H
theorem pu_iload {i x} (h : px_get L a = .int x) (H : pu_W X k rem suf L (.int x :: st) D Q) : pu_W X k rem ((pc, .iload i, n, a, b, v) :: suf) L st D Q := pu_s0 (fun _ => rfl) (by simp only [px_step, h]) rfl H
theorem pu_iload_n {i x} (h : px_get L a = .int x) (H : pu_W X k rem suf L (.int x :: st) D Q) : pu_W X k rem ((pc, .iload_n i, n, a, b, v) :: suf) L st D Q := pu_s0 (fun _ => rfl) (by simp only [px_step, h]) rfl H
theorem pu_lload {i x} (h : px_get L a = .long x) (H : pu_W X k rem suf L (.long x :: st) D Q) : pu_W X k rem ((pc, .lload i, n, a, b, v) :: suf) L st D Q := pu_s0 (fun _ => rfl) (by simp only [px_step, h]) rfl H
theorem pu_lload_n {i x} (h : px_get L a = .long x) (H : pu_W X k rem suf L (.long x :: st) D Q) : pu_W X k rem ((pc, .lload_n i, n, a, b, v) :: suf) L st D Q := pu_s0 (fun _ => rfl) (by simp only [px_step, h]) rfl H
theorem pu_aload {i x} (h : px_get L a = .ref x) (H : pu_W X k rem suf L (.ref x :: st) D Q) : pu_W X k rem ((pc, .aload i, n, a, b, v) :: suf) L st D Q := pu_s0 (fun _ => rfl) (by simp only [px_step, h]) rfl H
theorem pu_aload_n {i x} (h : px_get L a = .ref x) (H : pu_W X k rem suf L (.ref x :: st) D Q) : pu_W X k rem ((pc, .aload_n i, n, a, b, v) :: suf) L st D Q := pu_s0 (fun _ => rfl) (by simp only [px_step, h]) rfl H
theorem pu_set_eq {w : Value} (hc : a = 0 ∨ (L.getD (a - 1) .null).category = 1) : px_set L a w = L.set a w := by
  cases a with
  | zero => rfl
  | succ a =>
    have h1 : (L.getD a .null).category = 1 := by rcases hc with h | h; · cases h
                                                  · exact h
    show (if (L.getD a .null).category = 2 then (L.set a .null).set (a + 1) w else L.set (a + 1) w) = _
    rw [if_neg (by rw [h1]; decide)]
theorem pu_istore {i x L'} (hc : a = 0 ∨ (L.getD (a - 1) .null).category = 1) (hL : L.set a (.int x) = L') (H : pu_W X k rem suf L' st D Q) : pu_W X k rem ((pc, .istore i, n, a, b, v) :: suf) L (.int x :: st) D Q := pu_s0 (L' := L') (fun _ => rfl) (by simp only [px_step, pu_set_eq hc, hL]) rfl H
theorem pu_istore_n {i x L'} (hc : a = 0 ∨ (L.getD (a - 1) .null).category = 1) (hL : L.set a (.int x) = L') (H : pu_W X k rem suf L' st D Q) : pu_W X k rem ((pc, .istore_n i, n, a, b, v) :: suf) L (.int x :: st) D Q := pu_s0 (L' := L') (fun _ => rfl) (by simp only [px_step, pu_set_eq hc, hL]) rfl H
theorem pu_astore {i x L'} (hc : a = 0 ∨ (L.getD (a - 1) .null).category = 1) (hL : L.set a (.ref x) = L') (H : pu_W X k rem suf L' st D Q) : pu_W X k rem ((pc, .astore i, n, a, b, v) :: suf) L (.ref x :: st) D Q := pu_s0 (L' := L') (fun _ => rfl) (by simp only [px_step, pu_set_eq hc, hL]) rfl H
theorem pu_astore_n {i x L'} (hc : a = 0 ∨ (L.getD (a - 1) .null).category = 1) (hL : L.set a (.ref x) = L') (H : pu_W X k rem suf L' st D Q) : pu_W X k rem ((pc, .astore_n i, n, a, b, v) :: suf) L (.ref x :: st) D Q := pu_s0 (L' := L') (fun _ => rfl) (by simp only [px_step, pu_set_eq hc, hL]) rfl H
theorem pu_iinc {i z x L'} (h : px_get L a = .int x) (hc : a = 0 ∨ (L.getD (a - 1) .null).category = 1) (hL : L.set a (.int (x + v)) = L') (H : pu_W X k rem suf L' st D Q) : pu_W X k rem ((pc, .iinc i z, n, a, b, v) :: suf) L st D Q := pu_s0 (L' := L') (fun _ => rfl) (by simp only [px_step, h, pu_set_eq hc, hL]) rfl H
theorem pu_pop {x : Value} (hc : x.category = 1) (H : pu_W X k rem suf L st D Q) : pu_W X k rem ((pc, .pop, n, a, b, v) :: suf) L (x :: st) D Q := pu_s0 (fun _ => rfl) (by simp only [px_step, if_pos hc]) rfl H
theorem pu_dup {x : Value} (hc : x.category = 1) (H : pu_W X k rem suf L (x :: x :: st) D Q) : pu_W X k rem ((pc, .dup, n, a, b, v) :: suf) L (x :: st) D Q := pu_s0 (fun _ => rfl) (by simp only [px_step, if_pos hc]) rfl H
theorem pu_dup_x1 {x y : Value} (hc : x.category = 1) (hd : y.category = 1) (H : pu_W X k rem suf L (x :: y :: x :: st) D Q) : pu_W X k rem ((pc, .dup_x1, n, a, b, v) :: suf) L (x :: y :: st) D Q := pu_s0 (fun _ => rfl) (by simp only [px_step, if_pos (And.intro hc hd)]) rfl H
theorem pu_dup2 {x y : Value} (hc : x.category = 1) (hd : y.category = 1) (H : pu_W X k rem suf L (x :: y :: x :: y :: st) D Q) : pu_W X k rem ((pc, .dup2, n, a, b, v) :: suf) L (x :: y :: st) D Q := pu_s0 (fun _ => rfl) (by simp only [px_step, if_pos (And.intro hc hd)]) rfl H
theorem pu_ladd {x y} (H : pu_W X k rem suf L (.long (x + y) :: st) D Q) : pu_W X k rem ((pc, .ladd, n, a, b, v) :: suf) L (.long y :: .long x :: st) D Q := pu_s0 (fun _ => rfl) rfl rfl H
theorem pu_lor {x y} (H : pu_W X k rem suf L (.long (x ||| y) :: st) D Q) : pu_W X k rem ((pc, .lor, n, a, b, v) :: suf) L (.long y :: .long x :: st) D Q := pu_s0 (fun _ => rfl) rfl rfl H
theorem pu_land {x y} (H : pu_W X k rem suf L (.long (x &&& y) :: st) D Q) : pu_W X k rem ((pc, .land, n, a, b, v) :: suf) L (.long y :: .long x :: st) D Q := pu_s0 (fun _ => rfl) rfl rfl H
theorem pu_lshl {x : Int64} {y : Int32} (H : pu_W X k rem suf L (.long (x <<< (y.toInt64 &&& 63)) :: st) D Q) : pu_W X k rem ((pc, .lshl, n, a, b, v) :: suf) L (.int y :: .long x :: st) D Q := pu_s0 (fun _ => rfl) rfl rfl H
theorem pu_lcmp {x y} (H : pu_W X k rem suf L (.int (lg_cmp x y) :: st) D Q) : pu_W X k rem ((pc, .lcmp, n, a, b, v) :: suf) L (.long y :: .long x :: st) D Q := pu_s0 (fun _ => rfl) rfl rfl H
theorem pu_iadd {x y} (H : pu_W X k rem suf L (.int (x + y) :: st) D Q) : pu_W X k rem ((pc, .iadd, n, a, b, v) :: suf) L (.int y :: .int x :: st) D Q := pu_s0 (fun _ => rfl) rfl rfl H
theorem pu_isub {x y} (H : pu_W X k rem suf L (.int (x - y) :: st) D Q) : pu_W X k rem ((pc, .isub, n, a, b, v) :: suf) L (.int y :: .int x :: st) D Q := pu_s0 (fun _ => rfl) rfl rfl H
theorem pu_imul {x y} (H : pu_W X k rem suf L (.int (x * y) :: st) D Q) : pu_W X k rem ((pc, .imul, n, a, b, v) :: suf) L (.int y :: .int x :: st) D Q := pu_s0 (fun _ => rfl) rfl rfl H
theorem pu_iand {x y} (H : pu_W X k rem suf L (.int (x &&& y) :: st) D Q) : pu_W X k rem ((pc, .iand, n, a, b, v) :: suf) L (.int y :: .int x :: st) D Q := pu_s0 (fun _ => rfl) rfl rfl H
theorem pu_ior {x y} (H : pu_W X k rem suf L (.int (x ||| y) :: st) D Q) : pu_W X k rem ((pc, .ior, n, a, b, v) :: suf) L (.int y :: .int x :: st) D Q := pu_s0 (fun _ => rfl) rfl rfl H
theorem pu_ixor {x y} (H : pu_W X k rem suf L (.int (x ^^^ y) :: st) D Q) : pu_W X k rem ((pc, .ixor, n, a, b, v) :: suf) L (.int y :: .int x :: st) D Q := pu_s0 (fun _ => rfl) rfl rfl H
theorem pu_ishl {x y : Int32} (H : pu_W X k rem suf L (.int (x <<< (y &&& 31)) :: st) D Q) : pu_W X k rem ((pc, .ishl, n, a, b, v) :: suf) L (.int y :: .int x :: st) D Q := pu_s0 (fun _ => rfl) rfl rfl H
theorem pu_ishr {x y : Int32} (H : pu_W X k rem suf L (.int (x >>> (y &&& 31)) :: st) D Q) : pu_W X k rem ((pc, .ishr, n, a, b, v) :: suf) L (.int y :: .int x :: st) D Q := pu_s0 (fun _ => rfl) rfl rfl H
theorem pu_iushr {x y : Int32} (H : pu_W X k rem suf L (.int (x.toUInt32 >>> (y.toUInt32 &&& Int32.toUInt32 31)).toInt32 :: st) D Q) : pu_W X k rem ((pc, .iushr, n, a, b, v) :: suf) L (.int y :: .int x :: st) D Q := pu_s0 (fun _ => rfl) rfl rfl H
theorem pu_idiv {x y : Int32} (h : y ≠ 0) (H : pu_W X k rem suf L (.int (x / y) :: st) D Q) : pu_W X k rem ((pc, .idiv, n, a, b, v) :: suf) L (.int y :: .int x :: st) D Q := pu_s0 (fun _ => rfl) (by simp only [px_step, px_alu, if_neg h]) rfl H
theorem pu_irem {x y : Int32} (h : y ≠ 0) (H : pu_W X k rem suf L (.int (x - x / y * y) :: st) D Q) : pu_W X k rem ((pc, .irem, n, a, b, v) :: suf) L (.int y :: .int x :: st) D Q := pu_s0 (fun _ => rfl) (by simp only [px_step, px_alu, if_neg h]) rfl H
theorem pu_ineg {x : Int32} (H : pu_W X k rem suf L (.int (-x) :: st) D Q) : pu_W X k rem ((pc, .ineg, n, a, b, v) :: suf) L (.int x :: st) D Q := pu_s0 (fun _ => rfl) (by cases st with | nil => rfl | cons w st => cases w <;> rfl) rfl H
theorem pu_i2l {x : Int32} (H : pu_W X k rem suf L (.long x.toInt64 :: st) D Q) : pu_W X k rem ((pc, .i2l, n, a, b, v) :: suf) L (.int x :: st) D Q := pu_s0 (fun _ => rfl) (by cases st with | nil => rfl | cons w st => cases w <;> rfl) rfl H
theorem pu_i2b {x : Int32} (H : pu_W X k rem suf L (.int x.toInt8.toInt32 :: st) D Q) : pu_W X k rem ((pc, .i2b, n, a, b, v) :: suf) L (.int x :: st) D Q := pu_s0 (fun _ => rfl) (by cases st with | nil => rfl | cons w st => cases w <;> rfl) rfl H
theorem pu_i2s {x : Int32} (H : pu_W X k rem suf L (.int x.toInt16.toInt32 :: st) D Q) : pu_W X k rem ((pc, .i2s, n, a, b, v) :: suf) L (.int x :: st) D Q := pu_s0 (fun _ => rfl) (by cases st with | nil => rfl | cons w st => cases w <;> rfl) rfl H
theorem pu_i2c {x : Int32} (H : pu_W X k rem suf L (.int (x.toUInt32 % 65536).toInt32 :: st) D Q) : pu_W X k rem ((pc, .i2c, n, a, b, v) :: suf) L (.int x :: st) D Q := pu_s0 (fun _ => rfl) (by cases st with | nil => rfl | cons w st => cases w <;> rfl) rfl H
theorem pu_l2i {x : Int64} (H : pu_W X k rem suf L (.int x.toInt32 :: st) D Q) : pu_W X k rem ((pc, .l2i, n, a, b, v) :: suf) L (.long x :: st) D Q := pu_s0 (fun _ => rfl) rfl rfl H
theorem pu_goto {o : Int} {s' : List px_I} (ht : px_to k a = s') (H : pu_W X k rem s' L st D Q) : pu_W X k rem ((pc, .goto o, n, a, b, v) :: suf) L st D Q := pu_s1 (fun _ => rfl) rfl rfl ht H
theorem pu_if0 {c : Jvm.ClassFile.Cond} {o : Int} {x : Int32} {s' : List px_I} (ht : px_to k a = s') (h1 : px_cc c x 0 = true → pu_W X k rem s' L st D Q) (h2 : px_cc c x 0 = false → pu_W X k rem suf L st D Q) : pu_W X k rem ((pc, .ifCond c o, n, a, b, v) :: suf) L (.int x :: st) D Q := by
  cases hc : px_cc c x 0
  · exact pu_s0 (fun _ => rfl) (by simp only [px_step, hc]; rfl) rfl (h2 hc)
  · exact pu_s1 (fun _ => rfl) (by simp only [px_step, hc, if_true]) rfl ht (h1 hc)
theorem pu_if2 {c : Jvm.ClassFile.Cond} {o : Int} {x y : Int32} {s' : List px_I} (ht : px_to k a = s') (h1 : px_cc c x y = true → pu_W X k rem s' L st D Q) (h2 : px_cc c x y = false → pu_W X k rem suf L st D Q) : pu_W X k rem ((pc, .if_icmp c o, n, a, b, v) :: suf) L (.int y :: .int x :: st) D Q := by
  cases hc : px_cc c x y
  · exact pu_s0 (fun _ => rfl) (by simp only [px_step, hc]; rfl) rfl (h2 hc)
  · exact pu_s1 (fun _ => rfl) (by simp only [px_step, hc, if_true]) rfl ht (h1 hc)
theorem pu_not_lt {x y : Int32} (h : ¬ x < y) : y ≤ x := Int32.not_lt.mp h
theorem pu_le_not {x y : Int32} (h : y ≤ x) : ¬ x < y := Int32.not_lt.mpr h
theorem pu_lt_ {o : Int} {x y : Int32} {s' : List px_I} (ht : px_to k a = s') (h1 : x < y → pu_W X k rem s' L st D Q) (h2 : ¬ x < y → pu_W X k rem suf L st D Q) : pu_W X k rem ((pc, .if_icmp .lt o, n, a, b, v) :: suf) L (.int y :: .int x :: st) D Q := pu_if2 ht (fun h => h1 (of_decide_eq_true h)) (fun h => h2 (of_decide_eq_false h))
theorem pu_ge_ {o : Int} {x y : Int32} {s' : List px_I} (ht : px_to k a = s') (h1 : ¬ x < y → pu_W X k rem s' L st D Q) (h2 : x < y → pu_W X k rem suf L st D Q) : pu_W X k rem ((pc, .if_icmp .ge o, n, a, b, v) :: suf) L (.int y :: .int x :: st) D Q := pu_if2 ht (fun h => h1 (pu_le_not (of_decide_eq_true h))) (fun h => h2 (Int32.not_le.mp (of_decide_eq_false h)))
theorem pu_gt_ {o : Int} {x y : Int32} {s' : List px_I} (ht : px_to k a = s') (h1 : y < x → pu_W X k rem s' L st D Q) (h2 : ¬ y < x → pu_W X k rem suf L st D Q) : pu_W X k rem ((pc, .if_icmp .gt o, n, a, b, v) :: suf) L (.int y :: .int x :: st) D Q := pu_if2 ht (fun h => h1 (of_decide_eq_true h)) (fun h => h2 (of_decide_eq_false h))
theorem pu_le_ {o : Int} {x y : Int32} {s' : List px_I} (ht : px_to k a = s') (h1 : ¬ y < x → pu_W X k rem s' L st D Q) (h2 : y < x → pu_W X k rem suf L st D Q) : pu_W X k rem ((pc, .if_icmp .le o, n, a, b, v) :: suf) L (.int y :: .int x :: st) D Q := pu_if2 ht (fun h => h1 (pu_le_not (of_decide_eq_true h))) (fun h => h2 (Int32.not_le.mp (of_decide_eq_false h)))
theorem pu_eq_ {o : Int} {x y : Int32} {s' : List px_I} (ht : px_to k a = s') (h1 : x = y → pu_W X k rem s' L st D Q) (h2 : ¬ x = y → pu_W X k rem suf L st D Q) : pu_W X k rem ((pc, .if_icmp .eq o, n, a, b, v) :: suf) L (.int y :: .int x :: st) D Q := pu_if2 ht (fun h => h1 (of_decide_eq_true h)) (fun h => h2 (of_decide_eq_false h))
theorem pu_ne_ {o : Int} {x y : Int32} {s' : List px_I} (ht : px_to k a = s') (h1 : ¬ x = y → pu_W X k rem s' L st D Q) (h2 : x = y → pu_W X k rem suf L st D Q) : pu_W X k rem ((pc, .if_icmp .ne o, n, a, b, v) :: suf) L (.int y :: .int x :: st) D Q := pu_if2 ht (fun h => h1 (by simpa [px_cc] using h)) (fun h => h2 (by simpa [px_cc] using h))
theorem pu_lt0 {o : Int} {x : Int32} {s' : List px_I} (ht : px_to k a = s') (h1 : x < 0 → pu_W X k rem s' L st D Q) (h2 : ¬ x < 0 → pu_W X k rem suf L st D Q) : pu_W X k rem ((pc, .ifCond .lt o, n, a, b, v) :: suf) L (.int x :: st) D Q := pu_if0 ht (fun h => h1 (of_decide_eq_true h)) (fun h => h2 (of_decide_eq_false h))
theorem pu_ge0 {o : Int} {x : Int32} {s' : List px_I} (ht : px_to k a = s') (h1 : ¬ x < 0 → pu_W X k rem s' L st D Q) (h2 : x < 0 → pu_W X k rem suf L st D Q) : pu_W X k rem ((pc, .ifCond .ge o, n, a, b, v) :: suf) L (.int x :: st) D Q := pu_if0 ht (fun h => h1 (pu_le_not (of_decide_eq_true h))) (fun h => h2 (Int32.not_le.mp (of_decide_eq_false h)))
theorem pu_gt0 {o : Int} {x : Int32} {s' : List px_I} (ht : px_to k a = s') (h1 : 0 < x → pu_W X k rem s' L st D Q) (h2 : ¬ 0 < x → pu_W X k rem suf L st D Q) : pu_W X k rem ((pc, .ifCond .gt o, n, a, b, v) :: suf) L (.int x :: st) D Q := pu_if0 ht (fun h => h1 (of_decide_eq_true h)) (fun h => h2 (of_decide_eq_false h))
theorem pu_le0 {o : Int} {x : Int32} {s' : List px_I} (ht : px_to k a = s') (h1 : ¬ 0 < x → pu_W X k rem s' L st D Q) (h2 : 0 < x → pu_W X k rem suf L st D Q) : pu_W X k rem ((pc, .ifCond .le o, n, a, b, v) :: suf) L (.int x :: st) D Q := pu_if0 ht (fun h => h1 (pu_le_not (of_decide_eq_true h))) (fun h => h2 (Int32.not_le.mp (of_decide_eq_false h)))
theorem pu_eq0 {o : Int} {x : Int32} {s' : List px_I} (ht : px_to k a = s') (h1 : x = 0 → pu_W X k rem s' L st D Q) (h2 : ¬ x = 0 → pu_W X k rem suf L st D Q) : pu_W X k rem ((pc, .ifCond .eq o, n, a, b, v) :: suf) L (.int x :: st) D Q := pu_if0 ht (fun h => h1 (of_decide_eq_true h)) (fun h => h2 (of_decide_eq_false h))
theorem pu_ne0 {o : Int} {x : Int32} {s' : List px_I} (ht : px_to k a = s') (h1 : ¬ x = 0 → pu_W X k rem s' L st D Q) (h2 : x = 0 → pu_W X k rem suf L st D Q) : pu_W X k rem ((pc, .ifCond .ne o, n, a, b, v) :: suf) L (.int x :: st) D Q := pu_if0 ht (fun h => h1 (by simpa [px_cc] using h)) (fun h => h2 (by simpa [px_cc] using h))
/-- a branch whose way is known -/
theorem pu_ifT {c : Jvm.ClassFile.Cond} {o : Int} {x : Int32} {s' : List px_I} (hc : px_cc c x 0 = true) (ht : px_to k a = s') (H : pu_W X k rem s' L st D Q) : pu_W X k rem ((pc, .ifCond c o, n, a, b, v) :: suf) L (.int x :: st) D Q := pu_if0 ht (fun _ => H) (fun h => by rw [hc] at h; cases h)
theorem pu_ifF {c : Jvm.ClassFile.Cond} {o : Int} {x : Int32} (hc : px_cc c x 0 = false) (H : pu_W X k rem suf L st D Q) : pu_W X k rem ((pc, .ifCond c o, n, a, b, v) :: suf) L (.int x :: st) D Q := pu_if0 rfl (fun h => by rw [hc] at h; cases h) (fun _ => H)
theorem pu_icT {c : Jvm.ClassFile.Cond} {o : Int} {x y : Int32} {s' : List px_I} (hc : px_cc c x y = true) (ht : px_to k a = s') (H : pu_W X k rem s' L st D Q) : pu_W X k rem ((pc, .if_icmp c o, n, a, b, v) :: suf) L (.int y :: .int x :: st) D Q := pu_if2 ht (fun _ => H) (fun h => by rw [hc] at h; cases h)
theorem pu_icF {c : Jvm.ClassFile.Cond} {o : Int} {x y : Int32} (hc : px_cc c x y = false) (H : pu_W X k rem suf L st D Q) : pu_W X k rem ((pc, .if_icmp c o, n, a, b, v) :: suf) L (.int y :: .int x :: st) D Q := pu_if2 rfl (fun h => by rw [hc] at h; cases h) (fun _ => H)
/-- switches: at a number; at none of those that have a way of their own -/
def pu_ct (lo hi : Int) (offs : Array Int) (c : Int32) (o : Int) : Bool := decide (¬ (c.toInt < lo ∨ hi < c.toInt)) && decide (offs[(c.toInt - lo).toNat]? = some o)
theorem pu_tswC {d lo hi : Int} {offs : Array Int} {x : Int32} (c : Int32) (o : Int) {s' : List px_I} (hx : x = c) (hc : pu_ct lo hi offs c o = true) (ht : px_to k ((pc : Int) + o).toNat = s') (H : pu_W X k rem s' L st D Q) : pu_W X k rem ((pc, .tableswitch d lo hi offs, n, a, b, v) :: suf) L (.int x :: st) D Q := by
  subst hx
  simp only [pu_ct, Bool.and_eq_true, decide_eq_true_eq] at hc
  exact pu_s1 (fun _ => rfl) (by simp only [px_step, if_neg hc.1, hc.2]) rfl ht H
def pu_cd (d lo hi : Int) (offs : Array Int) (cs : List Int32) : Bool := (List.range (hi - lo + 1).toNat).all fun j => decide (offs[j]? = some d) || decide (Int32.ofInt (lo + j) ∈ cs)
theorem pu_tswD {d lo hi : Int} {offs : Array Int} {x : Int32} (cs : List Int32) {s' : List px_I} (hx : x ∉ cs) (hc : pu_cd d lo hi offs cs = true) (ht : px_to k ((pc : Int) + d).toNat = s') (H : pu_W X k rem s' L st D Q) : pu_W X k rem ((pc, .tableswitch d lo hi offs, n, a, b, v) :: suf) L (.int x :: st) D Q := by
  by_cases h : x.toInt < lo ∨ hi < x.toInt
  · exact pu_s1 (fun _ => rfl) (by simp only [px_step, if_pos h]) rfl ht H
  · have h1 := List.all_eq_true.mp hc (x.toInt - lo).toNat (List.mem_range.mpr (by omega))
    have e : lo + ((x.toInt - lo).toNat : Int) = x.toInt := by omega
    simp only [Bool.or_eq_true, decide_eq_true_eq, e, Int32.ofInt_toInt] at h1
    have h2 := h1.resolve_right hx
    exact pu_s1 (fun _ => rfl) (by simp only [px_step, if_neg h, h2]) rfl ht H
theorem pu_lswC {d : Int} {ps : Array (Int × Int)} {x : Int32} (c : Int32) (o : Int) {s' : List px_I} (hx : x = c) (hc : (decide (Op.lookupswitch.offset ps.toList d c.toInt = o) && decide (0 ≤ (pc : Int) + o)) = true) (ht : px_to k ((pc : Int) + o).toNat = s') (H : pu_W X k rem s' L st D Q) : pu_W X k rem ((pc, .lookupswitch d ps, n, a, b, v) :: suf) L (.int x :: st) D Q := by
  subst hx
  simp only [Bool.and_eq_true, decide_eq_true_eq] at hc
  exact pu_s1 (fun _ => rfl) (by simp only [px_step, hc.1, if_pos hc.2]) rfl ht H
theorem pu_lswO (d : Int) (z : Int) : ∀ (l : List (Int × Int)), (∀ q ∈ l, q.1 ≠ z) → Op.lookupswitch.offset l d z = d
  | [], _ => rfl
  | q :: l, h => by
    obtain ⟨q1, q2⟩ := q
    have h1 := h _ List.mem_cons_self
    have h2 := pu_lswO d z l fun q hq => h q (List.mem_cons_of_mem _ hq)
    simp only [Op.lookupswitch.offset] at h2 ⊢
    split
    · rename_i h3; first | exact absurd h3 h1 | exact absurd h3.symm h1 | exact absurd (by simpa using h3) h1 | exact absurd (by simpa using h3) (Ne.symm h1)
    · exact h2
theorem pu_lswD {d : Int} {ps : Array (Int × Int)} {x : Int32} (cs : List Int32) {s' : List px_I} (hx : x ∉ cs) (hc : (ps.toList.all (fun q => decide (Int32.ofInt q.1 ∈ cs)) && decide (0 ≤ (pc : Int) + d)) = true) (ht : px_to k ((pc : Int) + d).toNat = s') (H : pu_W X k rem s' L st D Q) : pu_W X k rem ((pc, .lookupswitch d ps, n, a, b, v) :: suf) L (.int x :: st) D Q := by
  simp only [Bool.and_eq_true, decide_eq_true_eq] at hc
  have h1 : Op.lookupswitch.offset ps.toList d x.toInt = d := pu_lswO d _ _ fun q hq h => by
    have h2 := List.all_eq_true.mp hc.1 q hq
    rw [decide_eq_true_eq, h, Int32.ofInt_toInt] at h2
    exact hx h2
  exact pu_s1 (fun _ => rfl) (by simp only [px_step, h1, if_pos hc.2]) rfl ht H
/-- fields -/
theorem pu_getI {i q : Nat} (hk : a < 9 ∧ b < px_nf a ∧ px_kind a b < 2) (hq : pu_cl q = a) (H : pu_W X k rem suf L (.int (D.1 q b) :: st) D Q) : pu_W X k rem ((pc, .getfield i, n, a, b, v) :: suf) L (.ref q :: st) D Q := by
  obtain ⟨h1, h2⟩ := pu_at hq (by omega)
  rw [pu_nf hq hk.1] at h1
  refine pu_s0 (fun _ => rfl) ?_ rfl H
  simp only [px_step, if_pos h2, h1]
  rw [if_pos ⟨trivial, by omega, hk.2.1, trivial⟩, if_pos hk.2.2]
theorem pu_getR {i q r : Nat} (hk : a < 9 ∧ b < px_nf a ∧ ¬ px_kind a b < 2) (hq : pu_cl q = a) (hr : pu_rf q b = r) (H : pu_W X k rem suf L (.ref r :: st) D Q) : pu_W X k rem ((pc, .getfield i, n, a, b, v) :: suf) L (.ref q :: st) D Q := by
  obtain ⟨h1, h2⟩ := pu_at hq (by omega)
  rw [pu_nf hq hk.1] at h1
  have h3 := pu_rfS hq hk.1 hk.2.1 hk.2.2
  refine pu_s0 (fun _ => rfl) ?_ rfl H
  simp only [px_step, if_pos h2, h1]
  rw [if_pos ⟨trivial, by omega, hk.2.1, trivial⟩, if_neg hk.2.2, h3, hr]
theorem pu_getS0 {i q : Nat} (hq : 1000 ≤ q ∧ q < 1011) (H : pu_W X k rem suf L (.ref (q + 100) :: st) D Q) : pu_W X k rem ((pc, .getfield i, n, 14, 0, v) :: suf) L (.ref q :: st) D Q := by
  refine pu_s0 (fun _ => rfl) ?_ rfl H
  simp only [px_step, if_neg (show ¬ q < 1000 by omega)]
  rw [if_pos ⟨trivial, hq.2⟩]
  rfl
theorem pu_getS1 {i q : Nat} (hq : 1000 ≤ q ∧ q < 1011) (H : pu_W X k rem suf L (.int 0 :: st) D Q) : pu_W X k rem ((pc, .getfield i, n, 14, 1, v) :: suf) L (.ref q :: st) D Q := by
  refine pu_s0 (fun _ => rfl) ?_ rfl H
  simp only [px_step, if_neg (show ¬ q < 1000 by omega)]
  rw [if_pos ⟨trivial, hq.2⟩]
  rfl
theorem pu_putI {i q : Nat} {y : Int32} (hk : a < 9 ∧ b < px_nf a ∧ px_kind a b = 0 ∧ px_fin a b = false) (hq : pu_cl q = a) (H : pu_W X k rem suf L st (pu_wi D q b y) Q) : pu_W X k rem ((pc, .putfield i, n, a, b, v) :: suf) L (.int y :: .ref q :: st) D Q := by
  obtain ⟨h1, h2⟩ := pu_at hq (by omega)
  rw [pu_nf hq hk.1] at h1
  refine pu_s0 (D' := pu_wi D q b y) (fun _ => rfl) ?_ rfl H
  simp only [px_step, h1]
  rw [if_pos ⟨trivial, by omega, hk.2.1, trivial, Or.inl hk.2.2.2, h2, Or.inl hk.2.2.1⟩]
  rfl
theorem pu_putZ {i q : Nat} {y : Int32} (hk : a < 9 ∧ b < px_nf a ∧ px_kind a b = 1 ∧ px_fin a b = false) (hq : pu_cl q = a) (hy : y &&& 1 = y) (H : pu_W X k rem suf L st (pu_wi D q b y) Q) : pu_W X k rem ((pc, .putfield i, n, a, b, v) :: suf) L (.int y :: .ref q :: st) D Q := by
  obtain ⟨h1, h2⟩ := pu_at hq (by omega)
  rw [pu_nf hq hk.1] at h1
  refine pu_s0 (D' := pu_wi D q b y) (fun _ => rfl) ?_ rfl H
  simp only [px_step, h1]
  rw [if_pos ⟨trivial, by omega, hk.2.1, trivial, Or.inl hk.2.2.2, h2, Or.inr ⟨hk.2.2.1, hy⟩⟩]
  rfl
theorem pu_gsA {i r : Nat} (h : a < 4) (hr : 1200 + a = r) (H : pu_W X k rem suf L (.ref r :: st) D Q) : pu_W X k rem ((pc, .getstatic i, n, a, b, v) :: suf) L st D Q := by
  refine pu_s0 (fun _ => rfl) ?_ rfl H
  simp only [px_step, if_pos h, hr]
theorem pu_gs4 {i : Nat} (H : pu_W X k rem suf L (.int 1 :: st) D Q) : pu_W X k rem ((pc, .getstatic i, n, 4, b, v) :: suf) L st D Q := pu_s0 (fun _ => rfl) rfl rfl H
theorem pu_gs5 {i : Nat} (H : pu_W X k rem suf L (.retAddr 0 :: st) D Q) : pu_W X k rem ((pc, .getstatic i, n, 5, b, v) :: suf) L st D Q := pu_s0 (fun _ => rfl) rfl rfl H
/-- arrays -/
theorem pu_alen {q t : Nat} {y : Int32} (ht : 100 ≤ t ∧ t < 999) (hq : pu_cl q = t) (hy : Int32.ofNat (pu_ln q) = y) (H : pu_W X k rem suf L (.int y :: st) D Q) : pu_W X k rem ((pc, .arraylength, n, a, b, v) :: suf) L (.ref q :: st) D Q := by
  obtain ⟨h1, h2⟩ := pu_at hq ht.2
  refine pu_s0 (fun _ => rfl) ?_ rfl H
  simp only [px_step, if_pos h2, h1]
  rw [if_pos ht.1, hy]
/-- how long a word is, its letters -/
def pu_sl (w : Nat) : Nat := px_wl.getD (w - 1000) 0
def pu_sb (w j : Nat) : Int32 := (px_wb.getD (w - 1000) []).getD j 0
theorem pu_wlS {w : Nat} (hq : 1000 ≤ w ∧ w < 1011) : px_wl[w + 100 - 1100]? = some (pu_sl w) := by
  obtain ⟨i, rfl⟩ : ∃ i, w = 1000 + i := ⟨w - 1000, by omega⟩
  have hi : i < 11 := by omega
  unfold pu_sl
  rw [show 1000 + i + 100 - 1100 = i by omega, show 1000 + i - 1000 = i by omega, List.getD_eq_getElem?_getD, List.getElem?_eq_getElem (show i < px_wl.length from hi)]
  rfl
theorem pu_alenS {w : Nat} (hq : 1000 ≤ w ∧ w < 1011) (H : pu_W X k rem suf L (.int (Int32.ofNat (pu_sl w)) :: st) D Q) : pu_W X k rem ((pc, .arraylength, n, a, b, v) :: suf) L (.ref (w + 100) :: st) D Q := by
  refine pu_s0 (fun _ => rfl) ?_ rfl H
  simp only [px_step, if_neg (show ¬ w + 100 < 1000 by omega), if_neg (show ¬ w + 100 < 1100 by omega), pu_wlS hq]
theorem pu_balS {w : Nat} {j : Int32} (hq : 1000 ≤ w ∧ w < 1011) (hj : px_in j (pu_sl w) = true) (H : pu_W X k rem suf L (.int (pu_sb w j.toNatClampNeg) :: st) D Q) : pu_W X k rem ((pc, .baload, n, a, b, v) :: suf) L (.int j :: .ref (w + 100) :: st) D Q := by
  refine pu_s0 (fun _ => rfl) ?_ rfl H
  simp only [px_step, if_neg (show ¬ w + 100 < 1000 by omega), if_neg (show ¬ w + 100 < 1100 by omega), pu_wlS hq]
  rw [if_pos hj, show w + 100 - 1100 = w - 1000 by omega]
  rfl
/-- the static arrays -/
def pu_sa (a j : Nat) : Int32 := (px_ia.getD a []).getD j 0
def pu_san (a : Nat) : Nat := (px_ia.getD a []).length
theorem pu_xaS {q : Nat} (hq : 1200 ≤ q ∧ q < 1204) : px_xa X q = some (pu_san (q - 1200), fun j => pu_sa (q - 1200) j) := by
  obtain ⟨i, rfl⟩ : ∃ i, q = 1200 + i := ⟨q - 1200, by omega⟩
  have hi : i < 4 := by omega
  unfold px_xa pu_san
  rw [if_neg (by omega), if_neg (by omega), show 1200 + i - 1200 = i by omega, List.getElem?_eq_getElem (show i < px_ia.length from hi)]
  simp only [Option.map_some, pu_sa, List.getD_eq_getElem?_getD, List.getElem?_eq_getElem (show i < px_ia.length from hi), Option.getD_some]
theorem pu_alenA {q : Nat} {y : Int32} (hq : 1200 ≤ q ∧ q < 1204) (hy : Int32.ofNat (pu_san (q - 1200)) = y) (H : pu_W X k rem suf L (.int y :: st) D Q) : pu_W X k rem ((pc, .arraylength, n, a, b, v) :: suf) L (.ref q :: st) D Q := by
  refine pu_s0 (fun _ => rfl) ?_ rfl H
  simp only [px_step, if_neg (show ¬ q < 1000 by omega), if_neg (show ¬ q < 1100 by omega), pu_xaS (X := X) hq, List.getElem?_eq_none (show px_wl.length ≤ q - 1100 from (by show 11 ≤ q - 1100; omega)), hy]
theorem pu_ialA {q m : Nat} {j : Int32} (hq : 1200 ≤ q ∧ q < 1204) (hm : pu_san (q - 1200) = m) (hj : px_in j m = true) (H : pu_W X k rem suf L (.int (pu_sa (q - 1200) j.toNatClampNeg) :: st) D Q) : pu_W X k rem ((pc, .iaload, n, a, b, v) :: suf) L (.int j :: .ref q :: st) D Q := by
  refine pu_s0 (fun _ => rfl) ?_ rfl H
  simp only [px_step, if_neg (show ¬ q < 1000 by omega), pu_xaS (X := X) hq]
  rw [if_pos (by rw [hm]; exact hj)]
theorem pu_alenX (H : pu_W X k rem suf L (.int (Int32.ofNat X.1) :: st) D Q) : pu_W X k rem ((pc, .arraylength, n, a, b, v) :: suf) L (.ref 1300 :: st) D Q := pu_s0 (fun _ => rfl) rfl rfl H
theorem pu_ialX {j : Int32} (hj : px_in j X.1 = true) (H : pu_W X k rem suf L (.int (X.2 j.toNatClampNeg) :: st) D Q) : pu_W X k rem ((pc, .iaload, n, a, b, v) :: suf) L (.int j :: .ref 1300 :: st) D Q := by
  refine pu_s0 (fun _ => rfl) ?_ rfl H
  have : px_xa X 1300 = some X := rfl
  simp only [px_step, if_neg (show ¬ 1300 < 1000 by omega), this]
  rw [if_pos hj]
theorem pu_ial {q m : Nat} {j : Int32} (hq : pu_cl q = 100) (hm : pu_ln q = m) (hj : px_in j m = true) (H : pu_W X k rem suf L (.int (D.1 q j.toNatClampNeg) :: st) D Q) : pu_W X k rem ((pc, .iaload, n, a, b, v) :: suf) L (.int j :: .ref q :: st) D Q := by
  obtain ⟨h1, h2⟩ := pu_at hq (by omega)
  refine pu_s0 (fun _ => rfl) ?_ rfl H
  simp only [px_step, if_pos h2, h1]
  rw [if_pos ⟨trivial, by rw [hm]; exact hj⟩]
theorem pu_bal {q m : Nat} {j : Int32} (hq : pu_cl q = 101) (hm : pu_ln q = m) (hj : px_in j m = true) (H : pu_W X k rem suf L (.int (D.1 q j.toNatClampNeg) :: st) D Q) : pu_W X k rem ((pc, .baload, n, a, b, v) :: suf) L (.int j :: .ref q :: st) D Q := by
  obtain ⟨h1, h2⟩ := pu_at hq (by omega)
  refine pu_s0 (fun _ => rfl) ?_ rfl H
  simp only [px_step, if_pos h2, h1]
  rw [if_pos ⟨trivial, by rw [hm]; exact hj⟩]
theorem pu_lal {q m : Nat} {j : Int32} (hq : pu_cl q = 102) (hm : pu_ln q = m) (hj : px_in j m = true) (H : pu_W X k rem suf L (.long (D.2 q j.toNatClampNeg) :: st) D Q) : pu_W X k rem ((pc, .laload, n, a, b, v) :: suf) L (.int j :: .ref q :: st) D Q := by
  obtain ⟨h1, h2⟩ := pu_at hq (by omega)
  refine pu_s0 (fun _ => rfl) ?_ rfl H
  simp only [px_step, h1]
  rw [if_pos ⟨trivial, by rw [hm]; exact hj, h2⟩]
theorem pu_aal {j : Int32} (hj : px_in j 8 = true) (H : pu_W X k rem suf L (.ref (pu_rf 49 j.toNatClampNeg) :: st) D Q) : pu_W X k rem ((pc, .aaload, n, a, b, v) :: suf) L (.int j :: .ref 49 :: st) D Q := by
  have hq : pu_cl 49 = 103 := by decide +kernel
  have hl : pu_ln 49 = 8 := by decide +kernel
  obtain ⟨h1, h2⟩ := pu_at hq (by omega)
  refine pu_s0 (fun _ => rfl) ?_ rfl H
  simp only [px_step, h1]
  rw [if_pos ⟨trivial, by rw [hl]; exact hj, h2⟩, pu_shS hj]
theorem pu_ias {q m : Nat} {j y : Int32} (hq : pu_cl q = 100) (hm : pu_ln q = m) (hj : px_in j m = true) (H : pu_W X k rem suf L st (pu_wi D q j.toNatClampNeg y) Q) : pu_W X k rem ((pc, .iastore, n, a, b, v) :: suf) L (.int y :: .int j :: .ref q :: st) D Q := by
  obtain ⟨h1, h2⟩ := pu_at hq (by omega)
  refine pu_s0 (D' := pu_wi D q j.toNatClampNeg y) (fun _ => rfl) ?_ rfl H
  simp only [px_step, h1]
  rw [if_pos ⟨trivial, by rw [hm]; exact hj, h2⟩]
  rfl
theorem pu_bas {q m : Nat} {j y : Int32} (hq : pu_cl q = 101) (hm : pu_ln q = m) (hj : px_in j m = true) (H : pu_W X k rem suf L st (pu_wi D q j.toNatClampNeg (vp_nar .boolean y)) Q) : pu_W X k rem ((pc, .bastore, n, a, b, v) :: suf) L (.int y :: .int j :: .ref q :: st) D Q := by
  obtain ⟨h1, h2⟩ := pu_at hq (by omega)
  refine pu_s0 (D' := pu_wi D q j.toNatClampNeg (vp_nar .boolean y)) (fun _ => rfl) ?_ rfl H
  simp only [px_step, h1]
  rw [if_pos ⟨trivial, by rw [hm]; exact hj, h2⟩]
  rfl
theorem pu_las {q m : Nat} {j : Int32} {y : Int64} (hq : pu_cl q = 102) (hm : pu_ln q = m) (hj : px_in j m = true) (H : pu_W X k rem suf L st (pu_wl D q j.toNatClampNeg y) Q) : pu_W X k rem ((pc, .lastore, n, a, b, v) :: suf) L (.long y :: .int j :: .ref q :: st) D Q := by
  obtain ⟨h1, h2⟩ := pu_at hq (by omega)
  refine pu_s0 (D' := pu_wl D q j.toNatClampNeg y) (fun _ => rfl) ?_ rfl H
  simp only [px_step, h1]
  rw [if_pos ⟨trivial, by rw [hm]; exact hj, h2⟩]
  rfl
/-- ends -/
theorem pu_iretI {y : Int32} {P : Int32 → pu_D → Prop} (hr : px_rt k = some .int) (H : P y D) : pu_W X k rem ((pc, .ireturn, n, a, b, v) :: suf) L [.int y] D (pu_qi P) :=
  ⟨1, _, D, by unfold px_run; simp only [hr, px_rti, if_true], y, rfl, H⟩
theorem pu_iretZ {y : Int32} {P : Int32 → pu_D → Prop} (hr : px_rt k = some .boolean) (hy : y &&& 1 = y) (H : P y D) : pu_W X k rem ((pc, .ireturn, n, a, b, v) :: suf) L [.int y] D (pu_qi P) :=
  ⟨1, _, D, by unfold px_run; simp only [hr, px_rti, hy, decide_true, if_true], y, rfl, H⟩
theorem pu_iretT {y : Int32} {t : FieldType} {P : Int32 → pu_D → Prop} (hr : px_rt k = some t) (hy : px_rti (some t) y = true) (H : P y D) : pu_W X k rem ((pc, .ireturn, n, a, b, v) :: suf) L [.int y] D (pu_qi P) :=
  ⟨1, _, D, by unfold px_run; simp only [hr, hy, if_true], y, rfl, H⟩
theorem pu_lret {y : Int64} {P : Int64 → pu_D → Prop} (hr : px_rt k = some .long) (H : P y D) : pu_W X k rem ((pc, .lreturn, n, a, b, v) :: suf) L [.long y] D (pu_qj P) :=
  ⟨1, _, D, by unfold px_run; simp only [hr, if_true], y, rfl, H⟩
theorem pu_aret {y : Nat} {P : Nat → pu_D → Prop} (hr : px_rta (px_rt k) = true) (H : P y D) : pu_W X k rem ((pc, .areturn, n, a, b, v) :: suf) L [.ref y] D (pu_qr P) :=
  ⟨1, _, D, by unfold px_run; simp only [hr, if_true], y, rfl, H⟩
theorem pu_vret {P : pu_D → Prop} (hr : px_rt k = none) (H : P D) : pu_W X k rem ((pc, .return_, n, a, b, v) :: suf) L [] D (pu_qv P) :=
  ⟨1, _, D, by unfold px_run; simp only [hr, if_true], rfl, H⟩
/-- calls -/
def pu_sg (kd a b m cc : Nat) : Prop := a < px_law ∧ (a < 248 ∨ 250 < a) ∧ b = px_np a + (1 - px_sta a) ∧ px_sta a = (if kd = 1 then 1 else 0) ∧ px_mc a = 0 ∧ px_ms a = 0 ∧ (kd = 2 ↔ 0 < px_ini a) ∧ px_mx a = m ∧ px_cn a = cc
theorem pu_cok {kd m cc : Nat} {vs rest : List Value} {G : List px_S} (hs : pu_sg kd a b m cc) (hb : Nat.ble b st.length = true) (hv : (st.take b).reverse = vs) (hd : st.drop b = rest) (h8 : Nat.ble (px_sum rest) 8 = true) (hl : Nat.ble (px_entl vs).length m = true) (hq : kd = 1 ∨ px_rcv a G (vs.headD .null) = true) : px_cok kd a b rem L st G = true := by
  obtain ⟨e1, e2, e3, e4, e5, e6, e7, e8, e9⟩ := hs
  have h8 := Nat.le_of_ble_eq_true h8
  have hl := Nat.le_of_ble_eq_true hl
  have hb := Nat.le_of_ble_eq_true hb
  simp only [px_cok, Bool.and_eq_true, decide_eq_true_eq, hv, hd, Bool.or_eq_true]
  refine ⟨⟨⟨⟨⟨⟨⟨⟨⟨⟨⟨e1, e2⟩, hb⟩, e3⟩, e4⟩, h8⟩, by omega⟩, by omega⟩, Or.inl e5⟩, hq⟩, e7⟩, by rw [e8]; exact hl⟩
theorem pu_callG {kd m cc : Nat} {i : Instr} {vs rest : List Value} (hs : pu_sg kd a b m cc) (hb : Nat.ble b st.length = true) (hv : (st.take b).reverse = vs) (hd : st.drop b = rest) (h8 : Nat.ble (px_sum rest) 8 = true) (hl : Nat.ble (px_entl vs).length m = true) (hq : kd = 1 ∨ px_rcv a pu_G (vs.headD .null) = true)
    (hrun : ∀ N, px_run X (N + 1) k rem ((pc, i, n, a, b, v) :: suf) L st (pu_G, D) = (if px_cok kd a b rem L st pu_G = true then
        (match px_run X N a (px_mc a, px_ms a) (px_ct a) (px_ent (st.take b).reverse (px_mx a)) [] (pu_G, D) with
        | some (r, h') => if (if px_mc a = 0 then decide (h'.1.length = pu_G.length) else decide (h'.1.length ≤ 1000)) = true then px_run X N k (rem.1 - px_mc a, rem.2 - px_ms a) suf L (r.toList ++ st.drop b) h' else none
        | none => none) else none))
    (H : pu_C X a vs D (fun r D1 => pu_W X k rem suf L (r.toList ++ rest) D1 Q)) : pu_W X k rem ((pc, i, n, a, b, v) :: suf) L st D Q := by
  obtain ⟨N, r, D1, h1, M, r2, D2, h3, h4⟩ := H
  refine ⟨max N M + 1, r2, D2, ?_, h4⟩
  rw [hrun, if_pos (pu_cok hs hb hv hd h8 hl hq), hv, pu_le (Nat.le_max_left N M) h1]
  have e5 := hs.2.2.2.2.1
  have e6 := hs.2.2.2.2.2.1
  show (if (if px_mc a = 0 then decide (pu_G.length = pu_G.length) else decide (pu_G.length ≤ 1000)) = true then px_run X (max N M) k (rem.1 - px_mc a, rem.2 - px_ms a) suf L (r.toList ++ st.drop b) (pu_G, D1) else none) = _
  rw [if_pos e5, if_pos (by simp), e5, e6, hd]
  exact pu_le (Nat.le_max_right N M) h3
theorem pu_rc {q cc : Nat} {vs : List Value} (he : px_cn a = cc) (hq : pu_cl q = cc ∧ cc < 9) : px_rcv a pu_G ((Value.ref q :: vs).headD .null) = true := by
  obtain ⟨h1, h2⟩ := pu_at hq.1 (by omega)
  show (if q < 1000 then _ else _) = true
  rw [if_pos h2, h1]
  simp [he, hq.2]
theorem pu_rcS {q : Nat} {vs : List Value} (he : px_cn a = 14) (hq : 1000 ≤ q ∧ q < 1011) : px_rcv a pu_G ((Value.ref q :: vs).headD .null) = true := by
  show (if q < 1000 then _ else _) = true
  rw [if_neg (by omega)]
  simp [he, hq.2]
theorem pu_cv {m cc idx q : Nat} {vs rest : List Value} (hs : pu_sg 0 a b m cc) (hq : pu_cl q = cc ∧ cc < 9) (hb : Nat.ble b st.length = true) (hv : (st.take b).reverse = .ref q :: vs) (hd : st.drop b = rest) (h8 : Nat.ble (px_sum rest) 8 = true) (hl : Nat.ble (px_entl (.ref q :: vs)).length m = true)
    (H : pu_C X a (.ref q :: vs) D (fun r D1 => pu_W X k rem suf L (r.toList ++ rest) D1 Q)) : pu_W X k rem ((pc, .invokevirtual idx, n, a, b, v) :: suf) L st D Q :=
  pu_callG hs hb hv hd h8 hl (Or.inr (pu_rc hs.2.2.2.2.2.2.2.2 hq)) (fun _ => rfl) H
theorem pu_cvS {m idx q : Nat} {vs rest : List Value} (hs : pu_sg 0 a b m 14) (hq : 1000 ≤ q ∧ q < 1011) (hb : Nat.ble b st.length = true) (hv : (st.take b).reverse = .ref q :: vs) (hd : st.drop b = rest) (h8 : Nat.ble (px_sum rest) 8 = true) (hl : Nat.ble (px_entl (.ref q :: vs)).length m = true)
    (H : pu_C X a (.ref q :: vs) D (fun r D1 => pu_W X k rem suf L (r.toList ++ rest) D1 Q)) : pu_W X k rem ((pc, .invokevirtual idx, n, a, b, v) :: suf) L st D Q :=
  pu_callG hs hb hv hd h8 hl (Or.inr (pu_rcS hs.2.2.2.2.2.2.2.2 hq)) (fun _ => rfl) H
theorem pu_cs {m cc idx : Nat} {vs rest : List Value} (hs : pu_sg 1 a b m cc) (hb : Nat.ble b st.length = true) (hv : (st.take b).reverse = vs) (hd : st.drop b = rest) (h8 : Nat.ble (px_sum rest) 8 = true) (hl : Nat.ble (px_entl vs).length m = true)
    (H : pu_C X a vs D (fun r D1 => pu_W X k rem suf L (r.toList ++ rest) D1 Q)) : pu_W X k rem ((pc, .invokestatic idx, n, a, b, v) :: suf) L st D Q := by
  have ha : a < 260 := hs.1
  refine pu_callG hs hb hv hd h8 hl (Or.inl rfl) (fun N => ?_) H
  rw [px_run.eq_def]
  simp only [if_neg (show ¬ a = 9001 by omega), if_neg (show ¬ a = 9002 by omega), if_neg (show ¬ a = 9003 by omega), if_neg (show ¬ a = 9004 by omega)]
  rfl
theorem pu_CI {vs rest : List Value} (H : pu_I X a vs D (fun y D1 => pu_W X k rem suf L (.int y :: rest) D1 Q)) : pu_C X a vs D (fun r D1 => pu_W X k rem suf L (r.toList ++ rest) D1 Q) := pu_W_imp H fun r D1 ⟨y, e, h⟩ => by rw [e]; exact h
theorem pu_CJ {vs rest : List Value} (H : pu_J X a vs D (fun y D1 => pu_W X k rem suf L (.long y :: rest) D1 Q)) : pu_C X a vs D (fun r D1 => pu_W X k rem suf L (r.toList ++ rest) D1 Q) := pu_W_imp H fun r D1 ⟨y, e, h⟩ => by rw [e]; exact h
theorem pu_CR {vs rest : List Value} (H : pu_R X a vs D (fun y D1 => pu_W X k rem suf L (.ref y :: rest) D1 Q)) : pu_C X a vs D (fun r D1 => pu_W X k rem suf L (r.toList ++ rest) D1 Q) := pu_W_imp H fun r D1 ⟨y, e, h⟩ => by rw [e]; exact h
theorem pu_CV {vs rest : List Value} (H : pu_V X a vs D (fun D1 => pu_W X k rem suf L rest D1 Q)) : pu_C X a vs D (fun r D1 => pu_W X k rem suf L (r.toList ++ rest) D1 Q) := pu_W_imp H fun r D1 ⟨e, h⟩ => by rw [e]; exact h
theorem pu_mabs {idx : Nat} {x : Int32} (h8 : Nat.ble (px_sum st) 8 = true) (H : pu_W X k rem suf L (.int (if 0 ≤ x then x else 0 - x) :: st) D Q) : pu_W X k rem ((pc, .invokestatic idx, n, 9002, b, v) :: suf) L (.int x :: st) D Q := by
  obtain ⟨N, r, D1, h1, h2⟩ := H
  exact ⟨N + 1, r, D1, by rw [px_run.eq_def]; simp only [if_neg (show ¬ 9002 = 9001 by omega), if_true, if_pos (Nat.le_of_ble_eq_true h8)]; exact h1, h2⟩
theorem pu_mmax {idx : Nat} {x y : Int32} (h8 : Nat.ble (px_sum st) 8 = true) (H : pu_W X k rem suf L (.int (if x < y then y else x) :: st) D Q) : pu_W X k rem ((pc, .invokestatic idx, n, 9003, b, v) :: suf) L (.int y :: .int x :: st) D Q := by
  obtain ⟨N, r, D1, h1, h2⟩ := H
  exact ⟨N + 1, r, D1, by rw [px_run.eq_def]; simp only [if_neg (show ¬ 9003 = 9001 by omega), if_neg (show ¬ 9003 = 9002 by omega), if_true, if_pos (Nat.le_of_ble_eq_true h8)]; exact h1, h2⟩
theorem pu_mmin {idx : Nat} {x y : Int32} (h8 : Nat.ble (px_sum st) 8 = true) (H : pu_W X k rem suf L (.int (if y < x then y else x) :: st) D Q) : pu_W X k rem ((pc, .invokestatic idx, n, 9004, b, v) :: suf) L (.int y :: .int x :: st) D Q := by
  obtain ⟨N, r, D1, h1, h2⟩ := H
  exact ⟨N + 1, r, D1, by rw [px_run.eq_def]; simp only [if_neg (show ¬ 9004 = 9001 by omega), if_neg (show ¬ 9004 = 9002 by omega), if_neg (show ¬ 9004 = 9003 by omega), if_true, if_pos (Nat.le_of_ble_eq_true h8)]; exact h1, h2⟩
/-- copies -/
def pu_cpI (D : pu_D) (src dst : Nat) (sp dp m : Int32) : pu_D := (px_row D.1 dst (va_cpy (D.1 src) (D.1 dst) sp.toNatClampNeg dp.toNatClampNeg m.toNatClampNeg), D.2)
def pu_cpL (D : pu_D) (src dst : Nat) (sp dp m : Int32) : pu_D := (D.1, px_rowL D.2 dst (va_cpy (D.2 src) (D.2 dst) sp.toNatClampNeg dp.toNatClampNeg m.toNatClampNeg))
/-- a copy may be -/
def pu_cpk (src dst : Nat) (sp dp m : Int32) : Prop := ¬ sp < 0 ∧ ¬ dp < 0 ∧ ¬ m < 0 ∧ sp.toNatClampNeg + m.toNatClampNeg ≤ pu_ln src ∧ dp.toNatClampNeg + m.toNatClampNeg ≤ pu_ln dst
theorem pu_acpI {idx src dst : Nat} {sp dp m : Int32} (h1 : pu_cl src = 100) (h2 : pu_cl dst = 100) (h8 : Nat.ble (px_sum st) 8 = true) (hk : pu_cpk src dst sp dp m) (H : pu_W X k rem suf L st (pu_cpI D src dst sp dp m) Q) : pu_W X k rem ((pc, .invokestatic idx, n, 9001, b, v) :: suf) L (.int m :: .int dp :: .ref dst :: .int sp :: .ref src :: st) D Q := by
  obtain ⟨N, r, D1, e1, e2⟩ := H
  obtain ⟨a1, a2⟩ := pu_at h1 (by omega)
  obtain ⟨b1, b2⟩ := pu_at h2 (by omega)
  refine ⟨N + 1, r, D1, ?_, e2⟩
  have hc : px_cpy pu_G D src dst sp dp m = some (pu_cpI D src dst sp dp m) := by
    simp only [px_cpy, a1, b1]
    rw [if_pos ⟨trivial, a2, b2, hk⟩, if_pos trivial]
    rfl
  rw [px_run.eq_def]
  simp only [if_true, if_pos (Nat.le_of_ble_eq_true h8), hc]
  exact e1
theorem pu_acpL {idx src dst : Nat} {sp dp m : Int32} (h1 : pu_cl src = 102) (h2 : pu_cl dst = 102) (h8 : Nat.ble (px_sum st) 8 = true) (hk : pu_cpk src dst sp dp m) (H : pu_W X k rem suf L st (pu_cpL D src dst sp dp m) Q) : pu_W X k rem ((pc, .invokestatic idx, n, 9001, b, v) :: suf) L (.int m :: .int dp :: .ref dst :: .int sp :: .ref src :: st) D Q := by
  obtain ⟨N, r, D1, e1, e2⟩ := H
  obtain ⟨a1, a2⟩ := pu_at h1 (by omega)
  obtain ⟨b1, b2⟩ := pu_at h2 (by omega)
  refine ⟨N + 1, r, D1, ?_, e2⟩
  have hc : px_cpy pu_G D src dst sp dp m = some (pu_cpL D src dst sp dp m) := by
    simp only [px_cpy, a1, b1]
    rw [if_pos ⟨trivial, a2, b2, hk⟩, if_pos trivial]
    rfl
  rw [px_run.eq_def]
  simp only [if_true, if_pos (Nat.le_of_ble_eq_true h8), hc]
  exact e1
/-- the entry of a method -/
theorem pu_ent {m : Nat} {vs : List Value} {ct : List px_I} {E : List Value} (hm : px_mx a = m) (hc : px_mc a = 0 ∧ px_ms a = 0) (ht : px_ct a = ct) (hE : px_ent vs m = E) (H : pu_W X a (0, 0) ct E [] D Q) : pu_C X a vs D Q := by
  unfold pu_C
  rw [hm, hc.1, hc.2, ht, hE]
  exact H
end PUR
