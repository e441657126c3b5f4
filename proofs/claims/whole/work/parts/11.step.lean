/-! ONE INSTRUCTION that is neither a call nor a return. -/
section PXS
variable {p : Program} {l : Launch} {e : Env} {R : Room} {s : State} {m : MethodId} {args : Array Value} {below : List Frame} {meth : Method} {c : Code} {H : Heap} {locs : List Loc} {cells slots : Nat} {Q : State → Prop}
variable {D : va_G} {tc : Nat → ClassId} {X : px_X} {z : Value} {A : Nat → Prop} {ad0 ad : Nat → Nat} {n0 k : Nat}
/-- arithmetic of two ints -/
theorem px_go_alu {cc : ByteArray} {pc : Nat} {ls : Array Slot} {rest : List Value} (hx : p.tables.exec = Jvm.exec) (hb : c.code = cc) {i : Instr} {x y w : Int32} (hd : decode cc pc = .ok (i, 1)) (h : px_alu i x y = some w)
    (kk : W p l e R s m args below meth c H locs cells slots Q (F0 m (pc + 1) ls (.int w :: rest))) : W p l e R s m args below meth c H locs cells slots Q (F0 m pc ls (.int y :: .int x :: rest)) := by
  unfold px_alu at h
  split at h
  · cases h; exact lv_iadd hx hb hd kk
  · cases h; exact lv_isub hx hb hd kk
  · cases h; exact lv_imul hx hb hd kk
  · cases h; exact lv_iand hx hb hd kk
  · cases h; exact lv_ior hx hb hd kk
  · cases h; exact lv_ixor hx hb hd kk
  · cases h; exact lv_ishl hx hb hd kk
  · cases h; exact lv_ishr hx hb hd kk
  · cases h; exact lv_iushr hx hb hd rfl kk
  · split at h
    · cases h
    · rename_i h0; cases h; exact lv_idiv hx hb hd h0 kk
  · split at h
    · cases h
    · rename_i h0; cases h; exact lv_irem hx hb hd h0 kk
  · cases h
theorem px_go_une {cc : ByteArray} {pc : Nat} {ls : Array Slot} {rest : List Value} (hx : p.tables.exec = Jvm.exec) (hb : c.code = cc) {i : Instr} {x w : Value} (hd : decode cc pc = .ok (i, 1)) (h : px_une i x = some w)
    (kk : W p l e R s m args below meth c H locs cells slots Q (F0 m (pc + 1) ls (px_rl ad z w :: rest))) : W p l e R s m args below meth c H locs cells slots Q (F0 m pc ls (px_rl ad z x :: rest)) := by
  unfold px_une at h
  split at h
  · split at h
    · cases h; exact lv_ineg hx hb hd kk
    · cases h
  · split at h
    · cases h; exact lv_i2l hx hb hd rfl kk
    · cases h
  · split at h
    · cases h; exact lv_l2i hx hb hd rfl kk
    · cases h
  · split at h
    · cases h; exact lv_i2b hx hb hd rfl kk
    · cases h
  · split at h
    · cases h; exact lv_i2s hx hb hd rfl kk
    · cases h
  · split at h
    · cases h; exact lv_i2c hx hb hd rfl kk
    · cases h
  · cases h
/-- a branch -/
theorem px_go_if {cc : ByteArray} {pc : Nat} {ls : Array Slot} {rest : List Value} (hx : p.tables.exec = Jvm.exec) (hb : c.code = cc) {co : Jvm.ClassFile.Cond} {x : Int32} {off : Int} {tgt : Nat} (hd : decode cc pc = .ok (.ifCond co off, 3)) (ht : (pc : Int) + off = (tgt : Int))
    (kk : W p l e R s m args below meth c H locs cells slots Q (F0 m ((if px_cc co x 0 then some tgt else none).getD (pc + 3)) ls rest)) : W p l e R s m args below meth c H locs cells slots Q (F0 m pc ls (.int x :: rest)) := by
  cases co
  · refine lv_if_eq hx hb hd ht (fun h => ?_) (fun h => ?_) <;> simpa [px_cc, h] using kk
  · refine lv_if_ne hx hb hd ht (fun h => ?_) (fun h => ?_) <;> simpa [px_cc, h] using kk
  · refine lv_if_lt hx hb hd ht (fun h => ?_) (fun h => ?_) <;> simpa [px_cc, h] using kk
  · refine lv_if_ge hx hb hd ht (fun h => ?_) (fun h => ?_) <;> simpa [px_cc, h] using kk
  · refine lv_if_gt hx hb hd ht (fun h => ?_) (fun h => ?_) <;> simpa [px_cc, h] using kk
  · refine lv_if_le hx hb hd ht (fun h => ?_) (fun h => ?_) <;> simpa [px_cc, h] using kk
theorem px_go_icmp {cc : ByteArray} {pc : Nat} {ls : Array Slot} {rest : List Value} (hx : p.tables.exec = Jvm.exec) (hb : c.code = cc) {co : Jvm.ClassFile.Cond} {x y : Int32} {off : Int} {tgt : Nat} (hd : decode cc pc = .ok (.if_icmp co off, 3)) (ht : (pc : Int) + off = (tgt : Int))
    (kk : W p l e R s m args below meth c H locs cells slots Q (F0 m ((if px_cc co x y then some tgt else none).getD (pc + 3)) ls rest)) : W p l e R s m args below meth c H locs cells slots Q (F0 m pc ls (.int y :: .int x :: rest)) := by
  cases co
  · refine lv_icmp_eq hx hb hd ht (fun h => ?_) (fun h => ?_) <;> simpa [px_cc, h] using kk
  · refine lv_icmp_ne hx hb hd ht (fun h => ?_) (fun h => ?_) <;> simpa [px_cc, h] using kk
  · refine lv_icmp_lt hx hb hd ht (fun h => ?_) (fun h => ?_) <;> simpa [px_cc, h] using kk
  · refine lv_icmp_ge hx hb hd ht (fun h => ?_) (fun h => ?_) <;> simpa [px_cc, h] using kk
  · refine lv_icmp_gt hx hb hd ht (fun h => ?_) (fun h => ?_) <;> simpa [px_cc, h] using kk
  · refine lv_icmp_le hx hb hd ht (fun h => ?_) (fun h => ?_) <;> simpa [px_cc, h] using kk
theorem px_in_of {j : Int32} {n : Nat} (h : px_in j n = true) : vp_in j n := by
  simp only [px_in, Bool.and_eq_true, Bool.not_eq_true', decide_eq_false_iff_not, decide_eq_true_eq] at h
  rintro (h1 | h1)
  · exact h.1 h1
  · omega
/-- getfield, putfield: what the list of links says -/
theorem px_fl_of {idx a b : Nat} (h : (px_LF.any fun r => decide (r.1 = px_cn k) && decide (r.2.1 = idx) && decide (r.2.2.1 = a) && decide (r.2.2.2.1 = b)) = true) (ha : a < 9) : b < px_nf a ∧ ∃ nest, (¬ nest = 0 → px_cn k ≠ a) ∧ (if nest = 0 then (Cond.fieldLink (px_own k) idx (px_T a b).1 (px_T a b).2.1 (px_T a b).2.2.1) ∈ px_Ts else (Cond.fieldLinkNest (px_own k) idx (px_T a b).1 (px_T a b).2.1 (px_T a b).2.2.1 px_host) ∈ px_Tn) := by
  obtain ⟨r, hr, h⟩ := List.any_eq_true.mp h
  obtain ⟨r1, r2, r3, r4, r5, r6⟩ := r
  simp only [Bool.and_eq_true, decide_eq_true_eq] at h
  obtain ⟨⟨⟨rfl, rfl⟩, rfl⟩, rfl⟩ := h
  have h2 := List.all_eq_true.mp px_LF_ok _ hr
  dsimp only at h2
  rw [if_neg (by omega)] at h2
  simp only [Bool.and_eq_true, decide_eq_true_eq] at h2
  refine ⟨h2.1.2, r5, fun h0 => ?_, ?_⟩
  · have h4 := h2.1.1.1
    rw [Bool.or_eq_true] at h4
    simpa using h4.resolve_left (by simpa using h0)
  have h3 := h2.2
  unfold px_hasB px_fword at h3
  by_cases hn : r5 = 0
  · rw [if_pos hn] at h3 ⊢
    rw [if_pos hn] at h3
    exact px_has_mem h3
  · rw [if_neg hn] at h3 ⊢
    rw [if_neg hn] at h3
    exact px_hasN_mem h3
theorem px_fls_of {idx b : Nat} (h : (px_LF.any fun r => decide (r.1 = px_cn k) && decide (r.2.1 = idx) && decide (r.2.2.1 = 14) && decide (r.2.2.2.1 = b)) = true) : b < 2 ∧ (Cond.fieldLink (px_own k) idx (px_sf b).1 (px_sf b).2.1 (px_sf b).2.2) ∈ px_Ts := by
  obtain ⟨r, hr, h⟩ := List.any_eq_true.mp h
  obtain ⟨r1, r2, r3, r4, r5, r6⟩ := r
  simp only [Bool.and_eq_true, decide_eq_true_eq] at h
  obtain ⟨⟨⟨rfl, rfl⟩, rfl⟩, rfl⟩ := h
  have h2 := List.all_eq_true.mp px_LF_ok _ hr
  dsimp only at h2
  rw [if_pos rfl] at h2
  simp only [Bool.and_eq_true, decide_eq_true_eq] at h2
  have h3 := h2.2
  unfold px_fword at h3
  rw [if_pos rfl] at h3
  exact ⟨h2.1.1, px_has_mem h3⟩
/-- reading a field of a cell -/
theorem px_go_get {pc : Nat} {ls : Array Slot} {rest : List Value} {h : px_H} {idx a b q n : Nat} {rs : List (Option Nat)} (C : px_Cx D tc X z A ad0 k p R s m args meth c) (hP : va_P D vwCl (px_w tc ad h) H) (hd : decode (px_b k) pc = .ok (.getfield idx, 3))
    (hl : (px_LF.any fun r => decide (r.1 = px_cn k) && decide (r.2.1 = idx) && decide (r.2.2.1 = a) && decide (r.2.2.2.1 = b)) = true) (hq : h.1[q]? = some (a, n, rs)) (h9 : a < 9) (hbn : b < n) (hn : n = px_nf a)
    (kk : W p l e R s m args below meth c H locs cells slots Q (F0 m (pc + 3) ls (px_fv ad a rs (h.2.1 q) b :: rest))) : W p l e R s m args below meth c H locs cells slots Q (F0 m pc ls (.ref (ad q) :: rest)) := by
  obtain ⟨hx, hb, hml, hown, hts, hK, hA, hE, hi, hfr, hlo⟩ := C
  obtain ⟨-, nest, hne, hw⟩ := px_fl_of hl h9
  have he := px_w_at (tc := tc) (ad := ad) hq
  unfold px_cell at he
  rw [if_pos (show (a, n, rs).1 < 100 by show a < 100; omega)] at he
  dsimp only at he
  subst hn
  have hv : ((List.range (px_nf a)).map (px_fv ad a rs (h.2.1 q)))[b]? = some (px_fv ad a rs (h.2.1 q) b) := by
    rw [List.getElem?_map, List.getElem?_range hbn]; rfl
  by_cases h0 : nest = 0
  · rw [if_pos h0] at hw
    exact va_get hx hb hts (px_ws_in h9) hown hK hP q he (px_cl_at h9) b hbn (hts _ hw) (fun _ h => h) hv hd kk
  · rw [if_neg h0] at hw
    exact va_getN hx hb hts (px_ws_in h9) hown hK hP q he (px_cl_at h9) b hbn (px_Nw_use rfl (hE.1 _ hw)) (fun _ h => h) hv hd kk
/-- writing one -/
theorem px_go_put {pc : Nat} {ls : Array Slot} {rest : List Value} {h : px_H} {idx a b q n : Nat} {rs : List (Option Nat)} {v : Value} (C : px_Cx D tc X z A ad0 k p R s m args meth c) (hP : va_P D vwCl (px_w tc ad h) H) (hD : va_D A (px_w tc ad h)) (hS : va_S A s.heap H locs) (hd : decode (px_b k) pc = .ok (.putfield idx, 3))
    (hl : (px_LF.any fun r => decide (r.1 = px_cn k) && decide (r.2.1 = idx) && decide (r.2.2.1 = a) && decide (r.2.2.2.1 = b)) = true) (hq : h.1[q]? = some (a, n, rs)) (h9 : a < 9) (hbn : b < n) (hn : n = px_nf a) (hfin : px_fin a b = false ∨ px_ini k = a + 1) (hnv : narrow (px_ty a b) v = v) (hfv : fits (px_ty a b) v = true)
    (kk : ∀ (H1 : Heap) (locs1 : List Loc), va_P D vwCl ((px_w tc ad h).set q (ad q, .inr (a, ((List.range n).map (px_fv ad a rs (h.2.1 q))).set b v))) H1 → va_D A ((px_w tc ad h).set q (ad q, .inr (a, ((List.range n).map (px_fv ad a rs (h.2.1 q))).set b v))) → va_S A s.heap H1 locs1 → W p l e R s m args below meth c H1 locs1 cells slots Q (F0 m (pc + 3) ls rest)) : W p l e R s m args below meth c H locs cells slots Q (F0 m pc ls (v :: .ref (ad q) :: rest)) := by
  obtain ⟨hx, hb, hml, hown, hts, hK, hA, hE, hi, hfr, hlo⟩ := C
  obtain ⟨-, nest, hne, hw⟩ := px_fl_of hl h9
  have he := px_w_at (tc := tc) (ad := ad) hq
  unfold px_cell at he
  rw [if_pos (show (a, n, rs).1 < 100 by show a < 100; omega)] at he
  dsimp only at he
  subst hn
  have hlen : b < ((List.range (px_nf a)).map (px_fv ad a rs (h.2.1 q))).length := by simpa using hbn
  have hf := px_fd_ok h9 b hbn
  by_cases hff : px_fin a b = false
  · by_cases h0 : nest = 0
    · rw [if_pos h0] at hw
      exact va_put hx hb hts (px_ws_in h9) (px_ty a) (px_ty_ok h9) (px_nm_ok h9) hown hK hP hD hS q he (px_cl_at h9) b hbn (hts _ hw) (fun _ h => h) (hf.2.1.trans hff) (px_ty_ok h9 b hbn) hnv hfv hlen hd kk
    · rw [if_neg h0] at hw
      exact va_putN hx hb hts (px_ws_in h9) (px_ty a) (px_ty_ok h9) (px_nm_ok h9) hown hK hP hD hS q he (px_cl_at h9) b hbn (px_Nw_use rfl (hE.1 _ hw)) (fun _ h => h) (hf.2.1.trans hff) (px_ty_ok h9 b hbn) hnv hfv hlen hd kk
  · have hini : px_ini k = a + 1 := hfin.resolve_left hff
    obtain ⟨hnm, hcn⟩ := hi (by omega)
    have hca : a = px_cn k := by omega
    have hft : (px_T a b).2.2.2 = true := by rw [hf.2.1]; simpa using hff
    have hdec : (px_T a b).1 = px_own k := by rw [hf.1, hca]; rfl
    by_cases h0 : nest = 0
    · rw [if_pos h0] at hw
      exact va_putF hx hb hts (px_ws_in h9) (px_ty a) (px_ty_ok h9) (px_nm_ok h9) hown hK hP hD hS q he (px_cl_at h9) b hbn (hts _ hw) (fun _ h => h) hft hnm hdec (px_ty_ok h9 b hbn) hnv hfv hlen hd kk
    · exact absurd hca.symm (hne h0)
end PXS
