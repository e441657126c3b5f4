/-! THE LAW'S START: the two made, the loop entered. -/
section PZ
variable {X : px_X} {k N : Nat} {rem rem' : Nat × Nat} {pc n a b : Nat} {v : Int32} {suf : List px_I} {L st : List Value} {h h' : px_H} {o : Option Value × px_H}
theorem pz_le {N : Nat} (M : Nat) (hr : px_run X N k rem suf L st h = some o) : px_run X (N + M) k rem suf L st h = some o := by
  induction M with
  | zero => exact hr
  | succ M ih => exact pu_mono _ _ _ _ _ _ _ _ ih
theorem pz_s {i : Instr} {L' st' : List Value} (hrun : px_run X (N + 1) k rem ((pc, i, n, a, b, v) :: suf) L st h = (match px_step X (px_ini k) rem pc i a b v L st h with
      | some (none, L, st', h) => px_run X N k (px_remN rem i a st) suf L st' h
      | some (some t, L, st', h) => px_run X N k (px_remN rem i a st) (px_to k t) L st' h
      | none => none))
    (hs : px_step X (px_ini k) rem pc i a b v L st h = some (none, L', st', h')) (hr : px_remN rem i a st = rem') (H : px_run X N k rem' suf L' st' h' = some o) : px_run X (N + 1) k rem ((pc, i, n, a, b, v) :: suf) L st h = some o := by
  rw [hrun, hs]
  show px_run X N k (px_remN rem i a st) suf L' st' h' = _
  rw [hr]; exact H
theorem pz_c {idx : Nat} {r : Option Value} (h9 : ¬ a = 9000) (hc : px_cok 2 a b rem L st h.1 = true) (hrun : px_run X N a (px_mc a, px_ms a) (px_ct a) (px_ent (st.take b).reverse (px_mx a)) [] h = some (r, h')) (hm : ¬ px_mc a = 0) (hl : h'.1.length ≤ 1000) (hr : (rem.1 - px_mc a, rem.2 - px_ms a) = rem') (H : px_run X N k rem' suf L (r.toList ++ st.drop b) h' = some o) : px_run X (N + 1) k rem ((pc, .invokespecial idx, n, a, b, v) :: suf) L st h = some o := by
  unfold px_run
  dsimp only
  rw [if_neg h9, if_pos hc, hrun]
  dsimp only
  rw [if_neg hm, if_pos (decide_eq_true hl), hr]
  exact H
end PZ
theorem clr_0 : px_clr (fun _ _ => 0) 0 = fun _ _ => 0 := by
  funext i j
  unfold px_clr px_row
  split <;> rfl
theorem pz_pure (X : px_X) (hX : X.1 ≤ 3072) : ∃ (N : Nat) (h' : px_H), px_run X N px_law (1000, 20000) (px_ct px_law) (px_ent [.ref 1300] 4) [] ([], fun _ _ => 0, fun _ _ => 0) = some (some (.int 1), h') := by
  obtain ⟨h1, h2, e1, e2, eG, hrel, eG1⟩ := con_ X
  obtain ⟨N3, r, D', e3, y, hy, hP⟩ := la_loop hX (X.1 + 1) 0 h2.2 (by omega) (by omega) hrel
  subst hP
  subst hy
  have hl : h1.1.length = 85 := by rw [eG1]; decide +kernel
  have f1 := pz_le N3 e1
  have f2 := pz_le N3 e2
  have f3 := pz_le 6000 e3
  rw [Nat.add_comm 6000 N3] at f1 f2
  generalize N3 + 6000 = M at f1 f2 f3
  have g2 : h2 = (pu_G, h2.2) := by rw [← eG]
  refine ⟨M + 10, (pu_G, D'), ?_⟩
  have t17 := pz_s (X := X) (k := 260) (rem := (882, 12719)) (pc := 17) (n := 1) (a := 3) (b := 0) (v := 0) (i := .istore_n 3) (suf := px_c260_18) (L := [.ref 1300, .ref 0, .ref 85, .null]) (st := [.int 0]) (h := (pu_G, h2.2)) rfl rfl rfl f3
  have t16 := pz_s (X := X) (k := 260) (rem := (882, 12719)) (pc := 16) (n := 1) (a := 0) (b := 0) (v := 0) (i := .iconst 0) (L := [.ref 1300, .ref 0, .ref 85, .null]) (st := []) (h := (pu_G, h2.2)) rfl rfl rfl t17
  have t15 := pz_s (X := X) (k := 260) (rem := (882, 12719)) (pc := 15) (n := 1) (a := 2) (b := 0) (v := 0) (i := .astore_n 2) (L := [.ref 1300, .ref 0, .null, .null]) (st := [.ref 85]) (h := (pu_G, h2.2)) rfl rfl rfl t16
  rw [← g2] at t15
  rw [hl] at f2
  have t12 := pz_c (X := X) (k := 260) (rem := (914, 15597)) (rem' := (882, 12719)) (pc := 12) (n := 3) (a := 148) (b := 1) (v := 0) (idx := 12) (L := [.ref 1300, .ref 0, .null, .null]) (st := [.ref 85, .ref 85]) (h := (h1.1 ++ [(8, px_nf 8, List.replicate (px_nf 8) none)], px_clr h1.2.1 85, h1.2.2)) (by decide) (by show px_cok 2 148 1 (914, 15597) _ _ (h1.1 ++ _) = true; rw [eG1]; decide +kernel) (pz_le 3 f2) (by decide +kernel) (by rw [eG]; decide +kernel) (by decide +kernel) t15
  have t11 := pz_s (X := X) (k := 260) (rem := (914, 15597)) (pc := 11) (n := 1) (a := 0) (b := 0) (v := 0) (i := .dup) (L := [.ref 1300, .ref 0, .null, .null]) (st := [.ref 85]) (h := (h1.1 ++ [(8, px_nf 8, List.replicate (px_nf 8) none)], px_clr h1.2.1 85, h1.2.2)) rfl rfl rfl t12
  have s8 : px_step X (px_ini 260) (915, 15649) 8 (.new 10) 8 0 0 [.ref 1300, .ref 0, .null, .null] [] h1 = some (none, [.ref 1300, .ref 0, .null, .null], [.ref 85], (h1.1 ++ [(8, px_nf 8, List.replicate (px_nf 8) none)], px_clr h1.2.1 85, h1.2.2)) := by
    dsimp only [px_step]
    rw [if_pos (by rw [eG1]; decide +kernel), hl]
  have t8 := pz_s (X := X) (k := 260) (rem := (915, 15649)) (pc := 8) (n := 3) (a := 8) (b := 0) (v := 0) (i := .new 10) (L := [.ref 1300, .ref 0, .null, .null]) (st := []) (h := h1) rfl s8 (by decide +kernel) t11
  have t7 := pz_s (X := X) (k := 260) (rem := (915, 15649)) (pc := 7) (n := 1) (a := 1) (b := 0) (v := 0) (i := .astore_n 1) (L := [.ref 1300, .null, .null, .null]) (st := [.ref 0]) (h := h1) rfl rfl rfl t8
  have t4 := pz_c (X := X) (k := 260) (rem := (999, 19989)) (rem' := (915, 15649)) (pc := 4) (n := 3) (a := 86) (b := 1) (v := 0) (idx := 9) (L := [.ref 1300, .null, .null, .null]) (st := [.ref 0, .ref 0]) (h := px_h0 7) (by decide) (by decide +kernel) (pz_le 7 f1) (by decide +kernel) (by rw [hl]; decide) (by decide +kernel) t7
  have t3 := pz_s (X := X) (k := 260) (rem := (999, 19989)) (pc := 3) (n := 1) (a := 0) (b := 0) (v := 0) (i := .dup) (L := [.ref 1300, .null, .null, .null]) (st := [.ref 0]) (h := px_h0 7) rfl rfl rfl t4
  have s0 : px_step X (px_ini 260) (1000, 20000) 0 (.new 7) 7 0 0 [.ref 1300, .null, .null, .null] [] ([], fun _ _ => 0, fun _ _ => 0) = some (none, [.ref 1300, .null, .null, .null], [.ref 0], px_h0 7) := by
    dsimp only [px_step]
    rw [if_pos (by decide +kernel), show ([] : List px_S).length = 0 from rfl, clr_0]; rfl
  have t0 := pz_s (X := X) (k := 260) (rem := (1000, 20000)) (pc := 0) (n := 3) (a := 7) (b := 0) (v := 0) (i := .new 7) (L := [.ref 1300, .null, .null, .null]) (st := []) (h := ([], fun _ _ => 0, fun _ _ => 0)) rfl s0 (by decide +kernel) t3
  have hct : px_ct px_law = px_c260_0 := pu_t260_0
  have hen : px_ent [.ref 1300] 4 = [.ref 1300, .null, .null, .null] := rfl
  rw [hct, hen]
  exact t0
