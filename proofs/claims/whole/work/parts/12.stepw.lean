section PXW
variable {p : Program} {l : Launch} {e : Env} {R : Room} {s : State} {m : MethodId} {args : Array Value} {below : List Frame} {meth : Method} {c : Code} {Q : State → Prop}
variable {D : va_G} {tc : Nat → ClassId} {X : px_X} {z : Value} {A : Nat → Prop} {ad0 : Nat → Nat} {n0 k : Nat}
theorem px_ca_of {t : ClassId} {ty : FieldType} {tys : List (ClassId × FieldType)} {U : State} {cA : ClassId} (hK : va_K D vwCl (tys ++ [(cA, ty)]) U) {i : Nat} (ht : tys[i]? = some (t, ty)) : cA = t := by
  have h1 := hK.2 i (t, ty) (by rw [List.getElem?_append_left (List.getElem?_eq_some_iff.mp ht).1]; exact ht)
  have h2 := hK.2 tys.length (cA, ty) (by simp)
  have f1 := h1.2
  have f2 := h2.2
  cases ty with
  | object C =>
    obtain ⟨_, _, _, _, _, a1⟩ := f1
    obtain ⟨_, _, _, _, _, a2⟩ := f2
    exact Option.some.inj (a2.symm.trans a1)
  | _ => exact Option.some.inj (Eq.trans (Eq.symm f2) f1)
theorem px_zero_cell {ty : FieldType} (t : Nat) (h : (t = 100 ∧ ty = .int) ∨ (t = 101 ∧ ty = .boolean) ∨ (t = 102 ∧ ty = .long)) (N : Nat) (ad : Nat → Nat) (tc : Nat → ClassId) : ∃ (i : Nat) (a0 : vp_A), (px_tys tc)[i]? = some (tc i, ty) ∧ px_cell tc ad (t, N, []) (fun _ => 0) (fun _ => 0) = .inl (tc i, a0) ∧ (∀ cA : ClassId, vp_cell cA a0 = arrV cA N (fun _ => defaultValue ty)) ∧ componentBytes ty ≤ 8 := by
  rcases h with ⟨rfl, rfl⟩ | ⟨rfl, rfl⟩ | ⟨rfl, rfl⟩
  · exact ⟨0, (N, .inl (fun _ => 0)), rfl, rfl, fun cA => rfl, by decide⟩
  · exact ⟨1, (N, .inl (fun _ => 0)), rfl, rfl, fun cA => rfl, by decide⟩
  · exact ⟨2, (N, .inr (.inl (fun _ => 0))), rfl, rfl, fun cA => rfl, by decide⟩
theorem px_rl_cong {ad ad' : Nat → Nat} {n : Nat} (h : ∀ i, (i < n ∨ 1000 ≤ i) → ad' i = ad i) {v : Value} (hv : px_vok n v = true) : px_rl ad z v = px_rl ad' z v := by
  cases v with
  | ref r =>
    simp only [px_vok, Bool.or_eq_true, decide_eq_true_eq] at hv
    show Value.ref (ad r) = Value.ref (ad' r)
    rw [h r hv]
  | _ => rfl
/-- the relation behind a new cell -/
theorem px_Zr_push {ad : Nat → Nat} {h h' : px_H} {ls : Array Slot} {L st : List Value} {cells slots : Nat} {rem : Nat × Nat} {H H1 : Heap} {locs : List Loc} {q n : Nat} {s' : px_S} {e : va_E}
    (Z : px_Zr D tc z A ad0 n0 k R s ad h ls L cells slots rem H locs) (ht : px_tidy h.1 L st = true) (hG : h'.1 = h.1 ++ [s']) (hd : ∀ j, j < h.1.length → h'.2.1 j = h.2.1 j) (he : ∀ j, j < h.1.length → h'.2.2 j = h.2.2 j)
    (hc : px_cell tc (fun i => if i = h.1.length then q else ad i) s' (h'.2.1 h.1.length) (h'.2.2 h.1.length) = e) (hP : va_P D vwCl (px_w tc ad h ++ [(q, e)]) H1) (hD : va_D A (px_w tc ad h ++ [(q, e)])) (hS : va_S A s.heap H1 locs) (h1 : 1 ≤ rem.1) (h2 : n ≤ rem.2) :
    px_Zr D tc z A ad0 n0 k R s (fun i => if i = h.1.length then q else ad i) h' ls L (cells + 1) (slots + n) (rem.1 - 1, rem.2 - n) H1 locs ∧ st.map (px_rl ad z) = st.map (px_rl (fun i => if i = h.1.length then q else ad i) z) := by
  obtain ⟨-, -, -, hL, hc1, hs1, hn0, hag⟩ := Z
  simp only [px_tidy, Bool.and_eq_true, decide_eq_true_eq] at ht
  obtain ⟨⟨⟨t1, t2⟩, t3⟩, t4⟩ := ht
  have hw := px_w_push (tc := tc) (ad := ad) (h := h) (h' := h') (s' := s') (q := q) hG hd he t4 hc
  have hag2 : ∀ i, (i < h.1.length ∨ 1000 ≤ i) → (fun i => if i = h.1.length then q else ad i) i = ad i := fun i hi => by
    have : ¬ i = h.1.length := by omega
    simp only [if_neg this]
  have hlen : h'.1.length = h.1.length + 1 := by rw [hG]; simp
  refine ⟨⟨by rw [← hw]; exact hP, by rw [← hw]; exact hD, hS, hL.cong (fun v hv => px_rl_cong hag2 (List.all_eq_true.mp t2 v hv)), by simp only []; omega, by simp only []; omega, by omega, fun i hi => ?_⟩, ?_⟩
  · have hne : ¬ i = h.1.length := by omega
    simp only [if_neg hne]
    exact hag i (by omega)
  · exact List.map_congr_left (fun v hv => px_rl_cong hag2 (List.all_eq_true.mp t3 v hv))
theorem px_alu_len {i : Instr} {x y w : Int32} (h : px_alu i x y = some w) : px_len i = 1 := by
  unfold px_alu at h
  split at h <;> first | rfl | cases h
theorem px_une_len {i : Instr} {x w : Value} (h : px_une i x = some w) : px_len i = 1 := by
  unfold px_une at h
  split at h <;> first | rfl | cases h
theorem px_nf_lt {t b : Nat} (h : b < px_nf t) : t < 9 := by
  unfold px_nf at h
  rcases Nat.lt_or_ge t 9 with h9 | h9
  · exact h9
  · have : px_kinds[t]? = none := List.getElem?_eq_none h9
    rw [this] at h
    exact absurd h (Nat.not_lt_zero _)
theorem px_and1 {y : Int32} (h : y &&& 1 = y) : y = 0 ∨ y = 1 := by
  have h2 : y.toBitVec &&& 1#32 = y.toBitVec := by
    have := congrArg Int32.toBitVec h
    simpa using this
  have h3 : y.toBitVec = 0#32 ∨ y.toBitVec = 1#32 := by
    generalize y.toBitVec = w at h2 ⊢
    by_cases hw : w.getLsbD 0
    · right
      apply BitVec.eq_of_getLsbD_eq
      intro i hi
      have := congrArg (fun q => q.getLsbD i) h2
      simp only [BitVec.getLsbD_and] at this
      rw [← this]
      by_cases h0 : i = 0
      · subst h0; rw [hw]; rfl
      · simp [BitVec.getLsbD_one, h0]
    · left
      apply BitVec.eq_of_getLsbD_eq
      intro i hi
      have := congrArg (fun q => q.getLsbD i) h2
      simp only [BitVec.getLsbD_and] at this
      rw [← this]
      by_cases h0 : i = 0
      · subst h0; simp at hw; simp [hw]
      · simp [BitVec.getLsbD_one, h0]
  rcases h3 with h3 | h3
  · exact Or.inl (Int32.toBitVec_inj.mp h3)
  · exact Or.inr (Int32.toBitVec_inj.mp h3)
theorem px_far_e (q : Nat) (h : ¬ q < 1000) (h2 : q < 1011) : 1000 + (q - 1000) = q ∧ 1100 + (q - 1000) = q + 100 ∧ q - 1000 < 11 ∧ 1000 ≤ q ∧ 1000 ≤ q + 100 := by omega
theorem px_far_f (q : Nat) (h : ¬ q < 1100) {n : Nat} (h2 : px_wl[q - 1100]? = some n) : q - 1100 < 11 ∧ 1100 + (q - 1100) = q ∧ 1000 ≤ q := by
  have := (List.getElem?_eq_some_iff.mp h2).1
  have h3 : px_wl.length = 11 := rfl
  omega
theorem px_arr_cell {tc : Nat → ClassId} {ad : Nat → Nat} {t n : Nat} {rs : List (Option Nat)} {dk : Nat → Int32} {ek : Nat → Int64} (ht : 100 ≤ t) : ∃ (i : Nat) (ty : FieldType) (x : vp_A), px_cell tc ad (t, n, rs) dk ek = .inl (tc i, x) ∧ (px_tys tc)[i]? = some (tc i, ty) ∧ x.1 = n := by
  unfold px_cell
  rw [if_neg (show ¬ t < 100 by omega)]
  by_cases h0 : t = 100
  · exact ⟨0, _, _, if_pos h0, rfl, rfl⟩
  · rw [if_neg (show ¬ t = 100 from h0)]
    by_cases h1 : t = 101
    · exact ⟨1, _, _, if_pos h1, rfl, rfl⟩
    · rw [if_neg (show ¬ t = 101 from h1)]
      by_cases h2 : t = 102
      · exact ⟨2, _, _, if_pos h2, rfl, rfl⟩
      · rw [if_neg (show ¬ t = 102 from h2)]
        exact ⟨3, _, _, rfl, rfl, rfl⟩
theorem px_fv_set {ad : Nat → Nat} {t n b : Nat} {rs : List (Option Nat)} {dk : Nat → Int32} {y : Int32} (hb : b < n) (hk : px_kind t b < 2) : (List.range n).map (px_fv ad t rs (upd dk b y)) = ((List.range n).map (px_fv ad t rs dk)).set b (.int y) := by
  apply List.ext_getElem?
  intro j
  rw [List.getElem?_set]
  by_cases hj : b = j
  · subst hj
    rw [if_pos rfl, if_pos (by simpa using hb), List.getElem?_map, List.getElem?_range hb]
    show some _ = some _
    unfold px_fv upd
    rw [if_pos hk, if_pos rfl]
  · rw [if_neg hj, List.getElem?_map, List.getElem?_map]
    rcases Nat.lt_or_ge j n with hjn | hjn
    · rw [List.getElem?_range hjn]
      show some _ = some _
      have hjb : ¬ j = b := fun q => hj q.symm
      unfold px_fv upd
      simp only [if_neg hjb]
    · rw [List.getElem?_eq_none (by simpa using hjn)]
      rfl
theorem px_fv_setR {ad : Nat → Nat} {t n b r : Nat} {rs : List (Option Nat)} {dk : Nat → Int32} (hb : b < n) (hk : ¬ px_kind t b < 2) (hl : b < rs.length) : (List.range n).map (px_fv ad t (rs.set b (some r)) dk) = ((List.range n).map (px_fv ad t rs dk)).set b (.ref (ad r)) := by
  apply List.ext_getElem?
  intro j
  rw [List.getElem?_set]
  by_cases hj : b = j
  · subst hj
    rw [if_pos rfl, if_pos (by simpa using hb), List.getElem?_map, List.getElem?_range hb]
    show some _ = some _
    unfold px_fv
    rw [if_neg hk, List.getD_eq_getElem?_getD, List.getElem?_set_self hl]
    rfl
  · rw [if_neg hj, List.getElem?_map, List.getElem?_map]
    rcases Nat.lt_or_ge j n with hjn | hjn
    · rw [List.getElem?_range hjn]
      show some _ = some _
      unfold px_fv
      rw [List.getD_eq_getElem?_getD, List.getD_eq_getElem?_getD, List.getElem?_set_ne hj]
    · rw [List.getElem?_eq_none (by simpa using hjn)]
      rfl
theorem px_lk_of {k idx a : Nat} {v : Int32} (h : (px_LK.any fun r => decide (r.1 = px_cn k) && decide (r.2.1 = idx) && decide (r.2.2.1 = a) && decide (r.2.2.2.1 = v) && decide (r.1 ≠ 9)) = true) : (¬ 1000 ≤ a → Cond.constant (px_own k) idx v ∈ px_Ts) ∧ (1000 ≤ a → px_own k = "LightAlong" ∧ a < 1011 ∧ idx = 350 + 2 * (a - 1000)) := by
  obtain ⟨r, hr, h⟩ := List.any_eq_true.mp h
  obtain ⟨r1, r2, r3, r4, r5⟩ := r
  simp only [Bool.and_eq_true, decide_eq_true_eq] at h
  obtain ⟨⟨⟨⟨rfl, rfl⟩, rfl⟩, rfl⟩, h9⟩ := h
  have h2 := List.all_eq_true.mp px_LK_ok _ hr
  dsimp only at h2
  rw [Bool.or_eq_true] at h2
  have h3 := h2.resolve_left (by simpa using h9)
  refine ⟨fun ha => ?_, fun ha => ?_⟩
  · rw [if_neg ha] at h3
    exact px_has_mem h3
  · rw [if_pos ha] at h3
    simp only [Bool.and_eq_true, decide_eq_true_eq] at h3
    refine ⟨?_, h3.1.2, h3.2⟩
    unfold px_own
    rw [h3.1.1]; rfl
theorem px_ls_of {k idx a : Nat} (h : (px_LS.any fun r => decide (r.1 = px_cn k) && decide (r.2.1 = idx) && decide (r.2.2.1 = a)) = true) : if px_sq a = 0 then Cond.fieldLink (px_own k) idx (px_sn a).1 (px_sn a).2.1 (px_sn a).2.2 ∈ px_Ts else Cond.fieldLinkNest (px_own k) idx (px_sn a).1 (px_sn a).2.1 (px_sn a).2.2 px_host ∈ px_Tn := by
  obtain ⟨r, hr, h⟩ := List.any_eq_true.mp h
  obtain ⟨r1, r2, r3, r4⟩ := r
  simp only [Bool.and_eq_true, decide_eq_true_eq] at h
  obtain ⟨⟨rfl, rfl⟩, rfl⟩ := h
  have h3 := List.all_eq_true.mp px_LS_ok _ hr
  dsimp only at h3
  unfold px_hasB px_fword at h3
  by_cases hn : px_sq r3 = 0
  · rw [if_pos hn] at h3 ⊢
    rw [if_pos hn] at h3
    exact px_has_mem h3
  · rw [if_neg hn] at h3 ⊢
    rw [if_neg hn] at h3
    exact px_hasN_mem h3
theorem px_ln_of {k idx a : Nat} (h : (px_LN.any fun r => decide (r.1 = px_cn k) && decide (r.2.1 = idx) && decide (r.2.2.1 = a)) = true) : Cond.classLink (px_own k) idx (px_cl a) ∈ px_Ts ∧ Cond.instantiable (px_cl a) (px_nf a) ∈ px_Ts ∧ Cond.initialized (px_cl a) ∈ px_Ts := by
  obtain ⟨r, hr, h⟩ := List.any_eq_true.mp h
  obtain ⟨r1, r2, r3, r4, r5, r6⟩ := r
  simp only [Bool.and_eq_true, decide_eq_true_eq] at h
  obtain ⟨⟨rfl, rfl⟩, rfl⟩ := h
  have h3 := List.all_eq_true.mp px_LN_ok _ hr
  dsimp only at h3
  rw [Bool.and_eq_true] at h3
  have h4 := px_hasL_mem h3.2
  exact ⟨h4 _ (by simp [px_own]), h4 _ (by simp), h4 _ (by simp)⟩
theorem px_la_of {k idx : Nat} (h : (px_LA.any fun r => decide (r.1 = px_cn k) && decide (r.2.1 = idx)) = true) : Cond.classLink (px_own k) idx "LightAlong$Shelf" ∈ px_Ts := by
  obtain ⟨r, hr, h⟩ := List.any_eq_true.mp h
  obtain ⟨r1, r2, r3⟩ := r
  simp only [Bool.and_eq_true, decide_eq_true_eq] at h
  obtain ⟨rfl, rfl⟩ := h
  have h3 := List.all_eq_true.mp px_LA_ok _ hr
  exact px_has_mem h3
theorem px_atag_of {t : ArrayType} {a : Nat} (h : px_atag t = a) (ha : 100 ≤ a) : ∃ ty, newarray.typeOf t = ty ∧ Cond.arrayClass ty ∈ px_Ts ∧ ((a = 100 ∧ ty = .int) ∨ (a = 101 ∧ ty = .boolean) ∨ (a = 102 ∧ ty = .long)) := by
  have hm := px_hasL_mem px_misc_ok
  subst h
  cases t <;> first
    | exact ⟨.int, rfl, hm _ (by simp), Or.inl ⟨rfl, rfl⟩⟩
    | exact ⟨.boolean, rfl, hm _ (by simp), Or.inr (Or.inl ⟨rfl, rfl⟩)⟩
    | exact ⟨.long, rfl, hm _ (by simp), Or.inr (Or.inr ⟨rfl, rfl⟩)⟩
    | exact absurd ha (by decide)
theorem px_ldcwS {cc : ByteArray} {pc : Nat} {ls : Array Slot} {rest : List Value} {H : Heap} {locs : List Loc} {cells slots : Nat} (hexec : p.tables.exec = Jvm.exec) (hb : c.code = cc) {own tx : String} {index q : Nat} (hown : s.vm.findClass own = some m.cls) (hZ : vk_R own index tx q s) (hdg : decode cc pc = .ok (.ldc_w index, 3))
    (k : W p l e R s m args below meth c H locs cells slots Q (F0 m (pc + 3) ls (.ref q :: rest))) : W p l e R s m args below meth c H locs cells slots Q (F0 m pc ls rest) := by
  intro T hT X
  obtain ⟨t, a1, b1⟩ := k T hT X
  refine ⟨t, ?_, b1⟩
  subst hb
  obtain ⟨k, cf, i, a', hk, hcf, hcp, -, hr, hev'⟩ := Cond.stringRef_spec hown hZ.1
  cases hZ.2.symm.trans hev'
  obtain ⟨k', hk', he⟩ := X.warmed.alike.2.2 _ _ hk
  have hr' : k'.resolved[index]? = some (some (.string q)) := by
    rcases X.warmed.entry hk hk' index with h | ⟨h, -⟩
    · rw [h]; exact hr
    · rw [hr] at h; cases h
  jvm_step X.here [hexec, hdg, ldc_w.wp_string (e := e) (s := T) (f := F0 m pc ls rest) X.here.top hk' (by rw [he]; exact hcf) hcp hr']
  exact a1
set_option maxHeartbeats 8000000 in
set_option maxRecDepth 20000 in
theorem px_stepW {pc n a b : Nat} {i : Instr} {v : Int32} {L st L' st' : List Value} {h h' : px_H} {o : Option Nat} {rem : Nat × Nat} {ad : Nat → Nat} {ls : Array Slot} {H : Heap} {locs : List Loc} {cells slots : Nat}
    (C : px_Cx D tc X z A ad0 k p R s m args meth c) (hc : px_chk k (pc, i, n, a, b, v) = true) (hs : px_step X (px_ini k) rem pc i a b v L st h = some (o, L', st', h')) (hfar : ∀ i, 1000 ≤ i → ad i = ad0 i)
    (Z : px_Zr D tc z A ad0 n0 k R s ad h ls L cells slots rem H locs)
    (kk : ∀ (ad' : Nat → Nat) (ls' : Array Slot) (H' : Heap) (locs' : List Loc) (cells' slots' : Nat), px_Zr D tc z A ad0 n0 k R s ad' h' ls' L' cells' slots' (px_remN rem i a st) H' locs' → (∀ i, 1000 ≤ i → ad' i = ad0 i) → W p l e R s m args below meth c H' locs' cells' slots' Q (F0 m (o.getD (pc + n)) ls' (st'.map (px_rl ad' z)))) :
    W p l e R s m args below meth c H locs cells slots Q (F0 m pc ls (st.map (px_rl ad z))) := by
  have C0 := C
  have Z0 := Z
  obtain ⟨hx, hb, hml, hown, hts, hK, hA, hE, hi, hfr, hlo⟩ := C
  obtain ⟨hP, hD, hS, hL, hc1, hs1, hn0, hag⟩ := Z
  have hcat := px_rl_cat (ad := ad) (z := z) hE.2.2.1
  have hmx := hL.2.2.1
  simp only [px_chk, Bool.and_eq_true, decide_eq_true_eq] at hc
  obtain ⟨⟨hd, hc2⟩, hn⟩ := hc
  cases i with
  | iconst q =>
    simp only [px_step, Option.some.injEq, Prod.mk.injEq] at hs
    obtain ⟨rfl, rfl, rfl, rfl⟩ := hs
    have hn := of_decide_eq_true hn; simp only [px_len] at hn; subst hn
    exact lv_iconst hx hb hd (of_decide_eq_true hc2) (kk _ _ _ _ _ _ Z0 hfar)
  | bipush q =>
    simp only [px_step, Option.some.injEq, Prod.mk.injEq] at hs
    obtain ⟨rfl, rfl, rfl, rfl⟩ := hs
    have hn := of_decide_eq_true hn; simp only [px_len] at hn; subst hn
    exact lv_bipush hx hb hd (of_decide_eq_true hc2) (kk _ _ _ _ _ _ Z0 hfar)
  | sipush q =>
    simp only [px_step, Option.some.injEq, Prod.mk.injEq] at hs
    obtain ⟨rfl, rfl, rfl, rfl⟩ := hs
    have hn := of_decide_eq_true hn; simp only [px_len] at hn; subst hn
    exact lv_sipush hx hb hd (of_decide_eq_true hc2) (kk _ _ _ _ _ _ Z0 hfar)
  | lconst q =>
    simp only [px_step, Option.some.injEq, Prod.mk.injEq] at hs
    obtain ⟨rfl, rfl, rfl, rfl⟩ := hs
    have hn := of_decide_eq_true hn; simp only [px_len] at hn; subst hn
    exact lv_lconst hx hb hd rfl (kk _ _ _ _ _ _ Z0 hfar)
  | iload q =>
    simp only [px_step] at hs
    split at hs
    · rename_i x hg
      simp only [Option.some.injEq, Prod.mk.injEq] at hs
      obtain ⟨rfl, rfl, rfl, rfl⟩ := hs
      have hn := of_decide_eq_true hn; simp only [px_len] at hn; subst hn
      simp only [px_chk2, decide_eq_true_eq] at hc2; subst hc2
      exact lv_iload hx hb hd (hL.at hg (by simp)) (kk _ _ _ _ _ _ Z0 hfar)
    · cases hs
  | iload_n q =>
    simp only [px_step] at hs
    split at hs
    · rename_i x hg
      simp only [Option.some.injEq, Prod.mk.injEq] at hs
      obtain ⟨rfl, rfl, rfl, rfl⟩ := hs
      have hn := of_decide_eq_true hn; simp only [px_len] at hn; subst hn
      simp only [px_chk2, decide_eq_true_eq] at hc2
      exact lv_iload_n hx hb hd hc2 (hL.at hg (by simp)) (kk _ _ _ _ _ _ Z0 hfar)
    · cases hs
  | lload q =>
    simp only [px_step] at hs
    split at hs
    · rename_i x hg
      simp only [Option.some.injEq, Prod.mk.injEq] at hs
      obtain ⟨rfl, rfl, rfl, rfl⟩ := hs
      have hn := of_decide_eq_true hn; simp only [px_len] at hn; subst hn
      simp only [px_chk2, decide_eq_true_eq] at hc2; subst hc2
      exact lv_lload hx hb hd (hL.at hg (by simp)) (kk _ _ _ _ _ _ Z0 hfar)
    · cases hs
  | lload_n q =>
    simp only [px_step] at hs
    split at hs
    · rename_i x hg
      simp only [Option.some.injEq, Prod.mk.injEq] at hs
      obtain ⟨rfl, rfl, rfl, rfl⟩ := hs
      have hn := of_decide_eq_true hn; simp only [px_len] at hn; subst hn
      simp only [px_chk2, decide_eq_true_eq] at hc2
      exact lv_lload_n hx hb hd hc2 (hL.at hg (by simp)) (kk _ _ _ _ _ _ Z0 hfar)
    · cases hs
  | aload q =>
    simp only [px_step] at hs
    split at hs
    · rename_i x hg
      simp only [Option.some.injEq, Prod.mk.injEq] at hs
      obtain ⟨rfl, rfl, rfl, rfl⟩ := hs
      have hn := of_decide_eq_true hn; simp only [px_len] at hn; subst hn
      simp only [px_chk2, decide_eq_true_eq] at hc2; subst hc2
      exact lv_aload hx hb hd (hL.at hg (by simp)) (kk _ _ _ _ _ _ Z0 hfar)
    · cases hs
  | aload_n q =>
    simp only [px_step] at hs
    split at hs
    · rename_i x hg
      simp only [Option.some.injEq, Prod.mk.injEq] at hs
      obtain ⟨rfl, rfl, rfl, rfl⟩ := hs
      have hn := of_decide_eq_true hn; simp only [px_len] at hn; subst hn
      simp only [px_chk2, decide_eq_true_eq] at hc2
      exact lv_aload_n hx hb hd hc2 (hL.at hg (by simp)) (kk _ _ _ _ _ _ Z0 hfar)
    · cases hs
  | istore q =>
    simp only [px_step] at hs
    split at hs
    · rename_i x st0
      simp only [Option.some.injEq, Prod.mk.injEq] at hs
      obtain ⟨rfl, rfl, rfl, rfl⟩ := hs
      have hn := of_decide_eq_true hn; simp only [px_len] at hn; subst hn
      simp only [px_chk2, Bool.and_eq_true, decide_eq_true_eq] at hc2
      obtain ⟨hq, hlt⟩ := hc2; subst hq
      exact lv_istore hx hb hd hL.has hlt rfl (fun ls' h' => kk _ _ _ _ _ _ ⟨hP, hD, hS, hL.set (v := .int x) hcat rfl h', hc1, hs1, hn0, hag⟩ hfar)
    · cases hs
  | istore_n q =>
    simp only [px_step] at hs
    split at hs
    · rename_i x st0
      simp only [Option.some.injEq, Prod.mk.injEq] at hs
      obtain ⟨rfl, rfl, rfl, rfl⟩ := hs
      have hn := of_decide_eq_true hn; simp only [px_len] at hn; subst hn
      simp only [px_chk2, Bool.and_eq_true, decide_eq_true_eq] at hc2
      obtain ⟨hq, hlt⟩ := hc2
      exact lv_istore_n hx hb hd hq hL.has hlt rfl (fun ls' h' => kk _ _ _ _ _ _ ⟨hP, hD, hS, hL.set (v := .int x) hcat rfl h', hc1, hs1, hn0, hag⟩ hfar)
    · cases hs
  | astore q =>
    simp only [px_step] at hs
    split at hs
    · rename_i x st0
      simp only [Option.some.injEq, Prod.mk.injEq] at hs
      obtain ⟨rfl, rfl, rfl, rfl⟩ := hs
      have hn := of_decide_eq_true hn; simp only [px_len] at hn; subst hn
      simp only [px_chk2, Bool.and_eq_true, decide_eq_true_eq] at hc2
      obtain ⟨hq, hlt⟩ := hc2; subst hq
      exact lv_astore hx hb hd hL.has hlt rfl (fun ls' h' => kk _ _ _ _ _ _ ⟨hP, hD, hS, hL.set (v := .ref x) hcat rfl h', hc1, hs1, hn0, hag⟩ hfar)
    · cases hs
  | astore_n q =>
    simp only [px_step] at hs
    split at hs
    · rename_i x st0
      simp only [Option.some.injEq, Prod.mk.injEq] at hs
      obtain ⟨rfl, rfl, rfl, rfl⟩ := hs
      have hn := of_decide_eq_true hn; simp only [px_len] at hn; subst hn
      simp only [px_chk2, Bool.and_eq_true, decide_eq_true_eq] at hc2
      obtain ⟨hq, hlt⟩ := hc2
      exact lv_astore_n hx hb hd hq hL.has hlt rfl (fun ls' h' => kk _ _ _ _ _ _ ⟨hP, hD, hS, hL.set (v := .ref x) hcat rfl h', hc1, hs1, hn0, hag⟩ hfar)
    · cases hs
  | lstore q =>
    simp only [px_step] at hs
    split at hs
    · rename_i x st0
      simp only [Option.some.injEq, Prod.mk.injEq] at hs
      obtain ⟨rfl, rfl, rfl, rfl⟩ := hs
      have hn := of_decide_eq_true hn; simp only [px_len] at hn; subst hn
      simp only [px_chk2, Bool.and_eq_true, decide_eq_true_eq] at hc2
      obtain ⟨hq, hlt⟩ := hc2; subst hq
      exact lv_lstore hx hb hd hL.has hlt rfl (fun ls' h' => kk _ _ _ _ _ _ ⟨hP, hD, hS, hL.set2 (v := .long x) hcat rfl h', hc1, hs1, hn0, hag⟩ hfar)
    · cases hs
  | lstore_n q =>
    simp only [px_step] at hs
    split at hs
    · rename_i x st0
      simp only [Option.some.injEq, Prod.mk.injEq] at hs
      obtain ⟨rfl, rfl, rfl, rfl⟩ := hs
      have hn := of_decide_eq_true hn; simp only [px_len] at hn; subst hn
      simp only [px_chk2, Bool.and_eq_true, decide_eq_true_eq] at hc2
      obtain ⟨hq, hlt⟩ := hc2
      exact lv_lstore_n hx hb hd hq hL.has hlt rfl (fun ls' h' => kk _ _ _ _ _ _ ⟨hP, hD, hS, hL.set2 (v := .long x) hcat rfl h', hc1, hs1, hn0, hag⟩ hfar)
    · cases hs
  | iinc q w =>
    simp only [px_step] at hs
    split at hs
    · rename_i x hg
      simp only [Option.some.injEq, Prod.mk.injEq] at hs
      obtain ⟨rfl, rfl, rfl, rfl⟩ := hs
      have hn := of_decide_eq_true hn; simp only [px_len] at hn; subst hn
      simp only [px_chk2, Bool.and_eq_true, decide_eq_true_eq] at hc2
      obtain ⟨⟨hq, hlt⟩, hv⟩ := hc2; subst hq; subst hv
      obtain ⟨j, hj⟩ := List.getElem?_of_mem (px_lvs_mem (f := px_rl ad z) (q := (q, Value.int x)) |>.mpr ⟨.int x, px_get_some hg (by simp), by simp, rfl⟩)
      exact lv_iinc hx hb hd hL.has hj rfl hlt rfl (fun ls' h' => kk _ _ _ _ _ _ ⟨hP, hD, hS, hL.set (v := .int (x + Int32.ofInt w)) hcat rfl h', hc1, hs1, hn0, hag⟩ hfar)
    · cases hs
  | pop =>
    simp only [px_step] at hs
    split at hs
    · rename_i x st0
      split at hs
      · rename_i hcx
        simp only [Option.some.injEq, Prod.mk.injEq] at hs
        obtain ⟨rfl, rfl, rfl, rfl⟩ := hs
        have hn := of_decide_eq_true hn; simp only [px_len] at hn; subst hn
        exact lv_pop hx hb hd ((hcat x).trans hcx) (kk _ _ _ _ _ _ Z0 hfar)
      · cases hs
    · cases hs
  | dup =>
    simp only [px_step] at hs
    split at hs
    · rename_i x st0
      split at hs
      · rename_i hcx
        simp only [Option.some.injEq, Prod.mk.injEq] at hs
        obtain ⟨rfl, rfl, rfl, rfl⟩ := hs
        have hn := of_decide_eq_true hn; simp only [px_len] at hn; subst hn
        exact lv_dup hx hb hd ((hcat x).trans hcx) (kk _ _ _ _ _ _ Z0 hfar)
      · cases hs
    · cases hs
  | dup_x1 =>
    simp only [px_step] at hs
    split at hs
    · rename_i x y st0
      split at hs
      · rename_i hcx
        simp only [Option.some.injEq, Prod.mk.injEq] at hs
        obtain ⟨rfl, rfl, rfl, rfl⟩ := hs
        have hn := of_decide_eq_true hn; simp only [px_len] at hn; subst hn
        exact lv_dup_x1 hx hb hd ((hcat x).trans hcx.1) ((hcat y).trans hcx.2) (kk _ _ _ _ _ _ Z0 hfar)
      · cases hs
    · cases hs
  | dup2 =>
    simp only [px_step] at hs
    split at hs
    · rename_i x y st0
      split at hs
      · rename_i hcx
        simp only [Option.some.injEq, Prod.mk.injEq] at hs
        obtain ⟨rfl, rfl, rfl, rfl⟩ := hs
        have hn := of_decide_eq_true hn; simp only [px_len] at hn; subst hn
        exact lv_dup2_11 hx hb hd ((hcat x).trans hcx.1) ((hcat y).trans hcx.2) (kk _ _ _ _ _ _ Z0 hfar)
      · cases hs
    · cases hs
  | ladd =>
    simp only [px_step] at hs
    split at hs
    · simp only [Option.some.injEq, Prod.mk.injEq] at hs
      obtain ⟨rfl, rfl, rfl, rfl⟩ := hs
      have hn := of_decide_eq_true hn; simp only [px_len] at hn; subst hn
      exact lv_ladd hx hb hd (kk _ _ _ _ _ _ Z0 hfar)
    · cases hs
  | lor =>
    simp only [px_step] at hs
    split at hs
    · simp only [Option.some.injEq, Prod.mk.injEq] at hs
      obtain ⟨rfl, rfl, rfl, rfl⟩ := hs
      have hn := of_decide_eq_true hn; simp only [px_len] at hn; subst hn
      exact lv_lor hx hb hd (kk _ _ _ _ _ _ Z0 hfar)
    · cases hs
  | land =>
    simp only [px_step] at hs
    split at hs
    · simp only [Option.some.injEq, Prod.mk.injEq] at hs
      obtain ⟨rfl, rfl, rfl, rfl⟩ := hs
      have hn := of_decide_eq_true hn; simp only [px_len] at hn; subst hn
      exact lv_land hx hb hd (kk _ _ _ _ _ _ Z0 hfar)
    · cases hs
  | lshl =>
    simp only [px_step] at hs
    split at hs
    · simp only [Option.some.injEq, Prod.mk.injEq] at hs
      obtain ⟨rfl, rfl, rfl, rfl⟩ := hs
      have hn := of_decide_eq_true hn; simp only [px_len] at hn; subst hn
      exact lv_lshl hx hb hd rfl (kk _ _ _ _ _ _ Z0 hfar)
    · cases hs
  | lcmp =>
    simp only [px_step] at hs
    split at hs
    · simp only [Option.some.injEq, Prod.mk.injEq] at hs
      obtain ⟨rfl, rfl, rfl, rfl⟩ := hs
      have hn := of_decide_eq_true hn; simp only [px_len] at hn; subst hn
      exact W.lcmp hx hb hd (kk _ _ _ _ _ _ Z0 hfar)
    · cases hs
  | goto q =>
    simp only [px_step, Option.some.injEq, Prod.mk.injEq] at hs
    obtain ⟨rfl, rfl, rfl, rfl⟩ := hs
    have hn := of_decide_eq_true hn; simp only [px_len] at hn; subst hn
    simp only [px_chk2, decide_eq_true_eq] at hc2
    exact lv_goto hx hb hd hc2 (kk _ _ _ _ _ _ Z0 hfar)
  | ifCond co q =>
    simp only [px_step] at hs
    split at hs
    · simp only [Option.some.injEq, Prod.mk.injEq] at hs
      obtain ⟨rfl, rfl, rfl, rfl⟩ := hs
      have hn := of_decide_eq_true hn; simp only [px_len] at hn; subst hn
      simp only [px_chk2, decide_eq_true_eq] at hc2
      exact px_go_if hx hb hd hc2 (kk _ _ _ _ _ _ Z0 hfar)
    · cases hs
  | if_icmp co q =>
    simp only [px_step] at hs
    split at hs
    · simp only [Option.some.injEq, Prod.mk.injEq] at hs
      obtain ⟨rfl, rfl, rfl, rfl⟩ := hs
      have hn := of_decide_eq_true hn; simp only [px_len] at hn; subst hn
      simp only [px_chk2, decide_eq_true_eq] at hc2
      exact px_go_icmp hx hb hd hc2 (kk _ _ _ _ _ _ Z0 hfar)
    · cases hs
  | tableswitch dflt lo hi offs =>
    simp only [px_step] at hs
    simp only [px_chk2, Bool.and_eq_true, decide_eq_true_eq] at hc2
    split at hs
    · split at hs
      · rename_i hor
        simp only [Option.some.injEq, Prod.mk.injEq] at hs
        obtain ⟨rfl, rfl, rfl, rfl⟩ := hs
        exact lv_tableOut hx hb hd hor (Int.toNat_of_nonneg hc2.1).symm (kk _ _ _ _ _ _ Z0 hfar)
      · rename_i hor
        split at hs
        · rename_i of1 hof
          simp only [Option.some.injEq, Prod.mk.injEq] at hs
          obtain ⟨rfl, rfl, rfl, rfl⟩ := hs
          have hnn : 0 ≤ (pc : Int) + of1 := by
            have := List.all_eq_true.mp hc2.2 of1 (by
              have := Array.mem_of_getElem? hof
              exact Array.mem_toList_iff.mpr this)
            simpa using this
          exact lv_tableIn hx hb hd (fun q => hor (Or.inl q)) (fun q => hor (Or.inr q)) hof (Int.toNat_of_nonneg hnn).symm (kk _ _ _ _ _ _ Z0 hfar)
        · cases hs
    · cases hs
  | lookupswitch dflt ps =>
    simp only [px_step] at hs
    simp only [px_chk2] at hc2
    split at hs
    · split at hs
      · rename_i hnn
        simp only [Option.some.injEq, Prod.mk.injEq] at hs
        obtain ⟨rfl, rfl, rfl, rfl⟩ := hs
        exact lv_lookup hx hb hd hc2 rfl (Int.toNat_of_nonneg hnn).symm (kk _ _ _ _ _ _ Z0 hfar)
      · cases hs
    · cases hs
  | ldc q =>
    simp only [px_step, Option.some.injEq, Prod.mk.injEq] at hs
    obtain ⟨rfl, rfl, rfl, rfl⟩ := hs
    have hn := of_decide_eq_true hn; simp only [px_len] at hn; subst hn
    simp only [px_chk2] at hc2
    obtain ⟨h0, h1⟩ := px_lk_of hc2
    by_cases ha : 1000 ≤ a
    · obtain ⟨ho, hl, hi2⟩ := h1 ha
      have hR := hE.2.2.2.2.1 (a - 1000) (by omega)
      rw [show 1000 + (a - 1000) = a by omega, ← hfar a ha] at hR
      refine va_ldcS (tx := px_tx (a - 1000)) hx hb (ho ▸ hown) (by rw [hi2]; exact hR) hd ?_
      have k2 := kk _ _ _ _ _ _ Z0 hfar
      rw [if_pos ha] at k2
      exact k2
    · have k2 := kk _ _ _ _ _ _ Z0 hfar
      rw [if_neg ha] at k2
      exact lv_ldc hx hb hown (hts _ (h0 ha)) hd k2
  | ldc_w q =>
    simp only [px_step, Option.some.injEq, Prod.mk.injEq] at hs
    obtain ⟨rfl, rfl, rfl, rfl⟩ := hs
    have hn := of_decide_eq_true hn; simp only [px_len] at hn; subst hn
    simp only [px_chk2] at hc2
    obtain ⟨h0, h1⟩ := px_lk_of hc2
    by_cases ha : 1000 ≤ a
    · obtain ⟨ho, hl, hi2⟩ := h1 ha
      have hR := hE.2.2.2.2.1 (a - 1000) (by omega)
      rw [show 1000 + (a - 1000) = a by omega, ← hfar a ha] at hR
      refine px_ldcwS (tx := px_tx (a - 1000)) hx hb (ho ▸ hown) (by rw [hi2]; exact hR) hd ?_
      have k2 := kk _ _ _ _ _ _ Z0 hfar
      rw [if_pos ha] at k2
      exact k2
    · have k2 := kk _ _ _ _ _ _ Z0 hfar
      rw [if_neg ha] at k2
      exact lv_ldcw hx hb hown (hts _ (h0 ha)) hd k2
  | ldc2_w q =>
    simp only [px_step, Option.some.injEq, Prod.mk.injEq] at hs
    obtain ⟨rfl, rfl, rfl, rfl⟩ := hs
    have hn := of_decide_eq_true hn; simp only [px_len] at hn; subst hn
    simp only [px_chk2, Bool.and_eq_true, decide_eq_true_eq] at hc2
    obtain ⟨h9, rfl⟩ := hc2
    have ho : px_own k = "LightAlongLaw" := by unfold px_own; rw [h9]; rfl
    exact lv_ldc2 hx hb (ho ▸ hown) (hts _ (px_hasL_mem px_misc_ok _ (by simp))) hd (kk _ _ _ _ _ _ Z0 hfar)
  | getstatic q =>
    simp only [px_step] at hs
    have hn := of_decide_eq_true hn; simp only [px_len] at hn; subst hn
    simp only [px_chk2] at hc2
    have hw := px_ls_of hc2
    split at hs
    · rename_i ha
      simp only [Option.some.injEq, Prod.mk.injEq] at hs
      obtain ⟨rfl, rfl, rfl, rfl⟩ := hs
      have hZ := hE.2.2.2.2.2.2.1 a ha
      rw [← hfar (1200 + a) (by omega)] at hZ
      by_cases h0 : px_sq a = 0
      · rw [if_pos h0] at hw
        exact va_gets hx hb hZ hS hown (hts _ hw) (fun _ h => h) hd (kk _ _ _ _ _ _ Z0 hfar)
      · rw [if_neg h0] at hw
        exact va_getsN hx hb hZ hS hown (px_Nw_use rfl (hE.1 _ hw)) (fun _ h => h) hd (kk _ _ _ _ _ _ Z0 hfar)
    · split at hs
      · rename_i ha
        simp only [Option.some.injEq, Prod.mk.injEq] at hs
        obtain ⟨rfl, rfl, rfl, rfl⟩ := hs
        subst ha
        exact va_gets hx hb hE.2.2.2.2.2.2.2.1 hS hown (hts _ hw) (fun _ h => h) hd (kk _ _ _ _ _ _ Z0 hfar)
      · split at hs
        · rename_i ha
          simp only [Option.some.injEq, Prod.mk.injEq] at hs
          obtain ⟨rfl, rfl, rfl, rfl⟩ := hs
          subst ha
          exact va_gets hx hb hE.2.2.2.2.2.2.2.2 hS hown (hts _ hw) (fun _ h => h) hd (kk _ _ _ _ _ _ Z0 hfar)
        · cases hs
  | getfield idx =>
    simp only [px_step] at hs
    have hn := of_decide_eq_true hn; simp only [px_len] at hn; subst hn
    simp only [px_chk2] at hc2
    split at hs
    · rename_i q st0
      split at hs
      · split at hs
        · rename_i t n rs hq
          split at hs
          · rename_i hcond
            obtain ⟨rfl, ht, hbn, hnn⟩ := hcond
            have h9 : t < 9 := px_nf_lt (hnn ▸ hbn)
            refine px_go_get C0 hP hd hc2 hq h9 hbn hnn ?_
            split at hs
            · rename_i hk
              simp only [Option.some.injEq, Prod.mk.injEq] at hs
              obtain ⟨rfl, rfl, rfl, rfl⟩ := hs
              unfold px_fv
              rw [if_pos hk]
              exact kk _ _ _ _ _ _ Z0 hfar
            · rename_i hk
              split at hs
              · rename_i r hr
                simp only [Option.some.injEq, Prod.mk.injEq] at hs
                obtain ⟨rfl, rfl, rfl, rfl⟩ := hs
                unfold px_fv
                rw [if_neg hk, hr]
                exact kk _ _ _ _ _ _ Z0 hfar
              · cases hs
          · cases hs
        · cases hs
      · rename_i hq
        split at hs
        · rename_i hcond
          obtain ⟨rfl, hq2⟩ := hcond
          have hw := (px_fls_of hc2).2
          obtain ⟨e1, e2, e3, e4, e5⟩ := px_far_e q hq hq2
          have hE4 := hE.2.2.2.1.1 (q - 1000) e3
          simp only [e1, e2, ← hfar q e4, ← hfar (q + 100) e5] at hE4
          split at hs
          · rename_i hb0
            simp only [Option.some.injEq, Prod.mk.injEq] at hs
            obtain ⟨rfl, rfl, rfl, rfl⟩ := hs
            subst hb0
            exact vk_getf hx hb hE4.2.2.1 hS hown (hts _ hw) (fun _ h => h) hd (kk _ _ _ _ _ _ Z0 hfar)
          · split at hs
            · rename_i hb1
              simp only [Option.some.injEq, Prod.mk.injEq] at hs
              obtain ⟨rfl, rfl, rfl, rfl⟩ := hs
              subst hb1
              exact vk_getf hx hb hE4.2.1 hS hown (hts _ hw) (fun _ h => h) hd (kk _ _ _ _ _ _ Z0 hfar)
            · cases hs
        · cases hs
    · cases hs
  | putfield idx =>
    simp only [px_step] at hs
    have hn := of_decide_eq_true hn; simp only [px_len] at hn; subst hn
    simp only [px_chk2] at hc2
    split at hs
    · rename_i y q st0
      split at hs
      · rename_i t n rs hq
        split at hs
        · rename_i hcond
          obtain ⟨rfl, ht, hbn, hnn, hfin, hq9, hkd⟩ := hcond
          simp only [Option.some.injEq, Prod.mk.injEq] at hs
          obtain ⟨rfl, rfl, rfl, rfl⟩ := hs
          have h9 : t < 9 := px_nf_lt (hnn ▸ hbn)
          have hf := px_fd_ok h9 b (hnn ▸ hbn)
          have hk2 : px_kind t b < 2 := by omega
          have hnf : narrow (px_ty t b) (.int y) = .int y ∧ fits (px_ty t b) (.int y) = true := by
            rcases hkd with h0 | ⟨h1, h2⟩
            · rw [hf.2.2.1 h0]; exact ⟨rfl, rfl⟩
            · rw [hf.2.2.2.1 h1]
              refine ⟨congrArg Value.int h2, ?_⟩
              rcases px_and1 h2 with rfl | rfl <;> rfl
          refine px_go_put (v := .int y) C0 hP hD hS hd hc2 hq h9 hbn hnn hfin hnf.1 hnf.2 (fun H1 locs1 hP1 hD1 hS1 => ?_)
          have hw := px_w_set (tc := tc) (ad := ad) (h := h) (h' := (h.1, px_up h.2.1 q b y, h.2.2)) hq (px_set_same hq) (fun j hj => by simp only [px_up, if_neg hj]) (fun j hj => rfl) (e := .inr (t, ((List.range n).map (px_fv ad t rs (h.2.1 q))).set b (.int y))) (by
            unfold px_cell
            rw [if_pos (show (t, n, rs).1 < 100 from ht)]
            simp only [px_up, if_pos]
            rw [px_fv_set hbn hk2])
          rw [hw] at hP1 hD1
          exact kk _ _ _ _ _ _ ⟨hP1, hD1, hS1, hL, hc1, hs1, hn0, hag⟩ hfar
        · cases hs
      · cases hs
    · rename_i r q st0
      split at hs
      · rename_i t n rs hq
        split at hs
        · rename_i hcond
          obtain ⟨rfl, ht, hbn, hnn, hfin, hq9, hkd, hbl⟩ := hcond
          simp only [Option.some.injEq, Prod.mk.injEq] at hs
          obtain ⟨rfl, rfl, rfl, rfl⟩ := hs
          have h9 : t < 9 := px_nf_lt (hnn ▸ hbn)
          have hf := px_fd_ok h9 b (hnn ▸ hbn)
          have hk2 : ¬ px_kind t b < 2 := by omega
          refine px_go_put (v := .ref (ad r)) C0 hP hD hS hd hc2 hq h9 hbn hnn hfin (px_narrow_ref _ _) (px_fits_ref (hf.2.2.2.2 hk2).2.1 _) (fun H1 locs1 hP1 hD1 hS1 => ?_)
          have hw := px_w_set (tc := tc) (ad := ad) (h := h) (h' := (h.1.set q (t, n, rs.set b (some r)), h.2)) hq rfl (fun j hj => rfl) (fun j hj => rfl) (e := .inr (t, ((List.range n).map (px_fv ad t rs (h.2.1 q))).set b (.ref (ad r)))) (by
            unfold px_cell
            rw [if_pos (show t < 100 from ht)]
            dsimp only
            rw [px_fv_setR hbn hk2 hbl])
          rw [hw] at hP1 hD1
          exact kk _ _ _ _ _ _ ⟨hP1, hD1, hS1, hL, hc1, hs1, by simpa using hn0, by simpa using hag⟩ hfar
        · cases hs
      · cases hs
    · cases hs
  | arraylength =>
    simp only [px_step] at hs
    have hn := of_decide_eq_true hn; simp only [px_len] at hn; subst hn
    split at hs
    · rename_i q st0
      split at hs
      · split at hs
        · rename_i t n rs hq
          split at hs
          · rename_i ht
            simp only [Option.some.injEq, Prod.mk.injEq] at hs
            obtain ⟨rfl, rfl, rfl, rfl⟩ := hs
            have he := px_w_at (tc := tc) (ad := ad) hq
            obtain ⟨i0, ty, x, h1, h2, h3⟩ := px_arr_cell (tc := tc) (ad := ad) (n := n) (rs := rs) (dk := h.2.1 q) (ek := h.2.2 q) ht
            rw [h1] at he
            exact va_alen hx hb hK hP q i0 he h2 (by rw [h3]) hd (kk _ _ _ _ _ _ Z0 hfar)
          · cases hs
        · cases hs
      · split at hs
        · cases hs
        · rename_i hq1 hq2
          split at hs
          · rename_i n hwl
            simp only [Option.some.injEq, Prod.mk.injEq] at hs
            obtain ⟨rfl, rfl, rfl, rfl⟩ := hs
            obtain ⟨e1, e2, e3⟩ := px_far_f q hq2 hwl
            have hE4 := (hE.2.2.2.1.1 (q - 1100) e1).2.2.2
            simp only [e2, ← hfar q e3] at hE4
            have e4 : px_wl.getD (q - 1100) 0 = n := by rw [List.getD_eq_getElem?_getD, hwl]; rfl
            rw [e4] at hE4
            exact va_tlen hx hb hE4 hS rfl hd (kk _ _ _ _ _ _ Z0 hfar)
          · split at hs
            · rename_i n f hxa
              simp only [Option.some.injEq, Prod.mk.injEq] at hs
              obtain ⟨rfl, rfl, rfl, rfl⟩ := hs
              have hT := hE.2.2.2.2.2.1 q n f hxa
              rw [← hfar q (px_xa_far hxa)] at hT
              exact va_tlen hx hb hT hS rfl hd (kk _ _ _ _ _ _ Z0 hfar)
            · cases hs
    · cases hs
  | iaload =>
    simp only [px_step] at hs
    have hn := of_decide_eq_true hn; simp only [px_len] at hn; subst hn
    split at hs
    · rename_i j q st0
      split at hs
      · split at hs
        · rename_i t n rs hq
          split at hs
          · rename_i ht
            obtain ⟨rfl, hj⟩ := ht
            simp only [Option.some.injEq, Prod.mk.injEq] at hs
            obtain ⟨rfl, rfl, rfl, rfl⟩ := hs
            exact va_iald hx hb hK hP q 0 (px_w_at (tc := tc) (ad := ad) hq) rfl (px_in_of hj) hd (kk _ _ _ _ _ _ Z0 hfar)
          · cases hs
        · cases hs
      · split at hs
        · rename_i n f hxa
          split at hs
          · rename_i hj
            simp only [Option.some.injEq, Prod.mk.injEq] at hs
            obtain ⟨rfl, rfl, rfl, rfl⟩ := hs
            have hT := hE.2.2.2.2.2.1 q n f hxa
            rw [← hfar q (px_xa_far hxa)] at hT
            exact va_ti hx hb hT hS (px_in_of hj) rfl hd (kk _ _ _ _ _ _ Z0 hfar)
          · cases hs
        · cases hs
    · cases hs
  | baload =>
    simp only [px_step] at hs
    have hn := of_decide_eq_true hn; simp only [px_len] at hn; subst hn
    split at hs
    · rename_i j q st0
      split at hs
      · split at hs
        · rename_i t n rs hq
          split at hs
          · rename_i ht
            obtain ⟨rfl, hj⟩ := ht
            simp only [Option.some.injEq, Prod.mk.injEq] at hs
            obtain ⟨rfl, rfl, rfl, rfl⟩ := hs
            exact va_zald hx hb hK hP q 1 (px_w_at (tc := tc) (ad := ad) hq) rfl (px_in_of hj) hd (kk _ _ _ _ _ _ Z0 hfar)
          · cases hs
        · cases hs
      · split at hs
        · cases hs
        · rename_i hq1 hq2
          split at hs
          · rename_i n hwl
            split at hs
            · rename_i hj
              simp only [Option.some.injEq, Prod.mk.injEq] at hs
              obtain ⟨rfl, rfl, rfl, rfl⟩ := hs
              obtain ⟨e1, e2, e3⟩ := px_far_f q hq2 hwl
              have hE4 := (hE.2.2.2.1.1 (q - 1100) e1).2.2.2
              simp only [e2, ← hfar q e3] at hE4
              have e4 : px_wl.getD (q - 1100) 0 = n := by rw [List.getD_eq_getElem?_getD, hwl]; rfl
              rw [e4] at hE4
              exact va_tb hx hb hE4 hS (px_in_of hj) rfl hd (kk _ _ _ _ _ _ Z0 hfar)
            · cases hs
          · cases hs
    · cases hs
  | laload =>
    simp only [px_step] at hs
    have hn := of_decide_eq_true hn; simp only [px_len] at hn; subst hn
    split at hs
    · rename_i j q st0
      split at hs
      · rename_i t n rs hq
        split at hs
        · rename_i ht
          obtain ⟨rfl, hj, -⟩ := ht
          simp only [Option.some.injEq, Prod.mk.injEq] at hs
          obtain ⟨rfl, rfl, rfl, rfl⟩ := hs
          exact va_lald hx hb hK hP q 2 (px_w_at (tc := tc) (ad := ad) hq) rfl (px_in_of hj) hd (kk _ _ _ _ _ _ Z0 hfar)
        · cases hs
      · cases hs
    · cases hs
  | aaload =>
    simp only [px_step] at hs
    have hn := of_decide_eq_true hn; simp only [px_len] at hn; subst hn
    split at hs
    · rename_i j q st0
      split at hs
      · rename_i t n rs hq
        split at hs
        · rename_i ht
          obtain ⟨rfl, hj, -⟩ := ht
          split at hs
          · rename_i r hr
            simp only [Option.some.injEq, Prod.mk.injEq] at hs
            obtain ⟨rfl, rfl, rfl, rfl⟩ := hs
            refine va_aldq hx hb hK hP q 3 (px_w_at (tc := tc) (ad := ad) hq) rfl (px_in_of hj) hd ?_
            simp only [hr, Option.map_some]
            exact kk _ _ _ _ _ _ Z0 hfar
          · cases hs
        · cases hs
      · cases hs
    · cases hs
  | iastore =>
    simp only [px_step] at hs
    have hn := of_decide_eq_true hn; simp only [px_len] at hn; subst hn
    split at hs
    · rename_i y j q st0
      split at hs
      · rename_i t n rs hq
        split at hs
        · rename_i ht
          obtain ⟨rfl, hj, -⟩ := ht
          simp only [Option.some.injEq, Prod.mk.injEq] at hs
          obtain ⟨rfl, rfl, rfl, rfl⟩ := hs
          refine va_iast hx hb hK hP hD hS q 0 (px_w_at (tc := tc) (ad := ad) hq) rfl (px_in_of hj) hd (fun H1 locs1 hP1 hD1 hS1 => ?_)
          have hw := px_w_set (tc := tc) (ad := ad) (h := h) (h' := (h.1, px_up h.2.1 q j.toNatClampNeg y, h.2.2)) hq (px_set_same hq) (fun j0 hj0 => by simp only [px_up, if_neg hj0]) (fun j0 hj0 => by rfl) (e := .inl (tc 0, n, .inl (upd (h.2.1 q) j.toNatClampNeg y))) (by
            unfold px_cell
            simp [px_up])
          rw [hw] at hP1 hD1
          exact kk _ _ _ _ _ _ ⟨hP1, hD1, hS1, hL, hc1, hs1, hn0, hag⟩ hfar
        · cases hs
      · cases hs
    · cases hs
  | bastore =>
    simp only [px_step] at hs
    have hn := of_decide_eq_true hn; simp only [px_len] at hn; subst hn
    split at hs
    · rename_i y j q st0
      split at hs
      · rename_i t n rs hq
        split at hs
        · rename_i ht
          obtain ⟨rfl, hj, -⟩ := ht
          simp only [Option.some.injEq, Prod.mk.injEq] at hs
          obtain ⟨rfl, rfl, rfl, rfl⟩ := hs
          refine va_zast hx hb hK hP hD hS q 1 (px_w_at (tc := tc) (ad := ad) hq) rfl (px_in_of hj) hd (fun H1 locs1 hP1 hD1 hS1 => ?_)
          have hw := px_w_set (tc := tc) (ad := ad) (h := h) (h' := (h.1, px_up h.2.1 q j.toNatClampNeg (vp_nar .boolean y), h.2.2)) hq (px_set_same hq) (fun j0 hj0 => by simp only [px_up, if_neg hj0]) (fun j0 hj0 => by rfl) (e := .inl (tc 1, n, .inl (upd (h.2.1 q) j.toNatClampNeg (vp_nar .boolean y)))) (by
            unfold px_cell
            simp [px_up])
          rw [hw] at hP1 hD1
          exact kk _ _ _ _ _ _ ⟨hP1, hD1, hS1, hL, hc1, hs1, hn0, hag⟩ hfar
        · cases hs
      · cases hs
    · cases hs
  | lastore =>
    simp only [px_step] at hs
    have hn := of_decide_eq_true hn; simp only [px_len] at hn; subst hn
    split at hs
    · rename_i y j q st0
      split at hs
      · rename_i t n rs hq
        split at hs
        · rename_i ht
          obtain ⟨rfl, hj, -⟩ := ht
          simp only [Option.some.injEq, Prod.mk.injEq] at hs
          obtain ⟨rfl, rfl, rfl, rfl⟩ := hs
          refine va_last hx hb hK hP hD hS q 2 (px_w_at (tc := tc) (ad := ad) hq) rfl (px_in_of hj) hd (fun H1 locs1 hP1 hD1 hS1 => ?_)
          have hw := px_w_set (tc := tc) (ad := ad) (h := h) (h' := (h.1, h.2.1, px_upL h.2.2 q j.toNatClampNeg y)) hq (px_set_same hq) (fun j0 hj0 => by rfl) (fun j0 hj0 => by simp only [px_upL, if_neg hj0]) (e := .inl (tc 2, n, .inr (.inl (vp_updL (h.2.2 q) j.toNatClampNeg y)))) (by
            unfold px_cell
            simp [px_upL])
          rw [hw] at hP1 hD1
          exact kk _ _ _ _ _ _ ⟨hP1, hD1, hS1, hL, hc1, hs1, hn0, hag⟩ hfar
        · cases hs
      · cases hs
    · cases hs
  | aastore =>
    simp only [px_step] at hs
    have hn := of_decide_eq_true hn; simp only [px_len] at hn; subst hn
    split at hs
    · rename_i r j q st0
      split at hs
      · rename_i t n rs hq
        split at hs
        · rename_i t2 n2 rs2 hr
          split at hs
          · rename_i ht
            obtain ⟨rfl, hj, -, -, rfl, hjl⟩ := ht
            simp only [Option.some.injEq, Prod.mk.injEq] at hs
            obtain ⟨rfl, rfl, rfl, rfl⟩ := hs
            refine va_astq hx hb hK hP hD hS q 3 r 3 (r := (px_cl 3, px_T 3, px_nf 3)) (px_w_at (tc := tc) (ad := ad) hq) rfl (px_w_at (tc := tc) (ad := ad) hr) (px_cl_at (by decide)) (px_in_of hj) hd (fun H1 locs1 hP1 hD1 hS1 => ?_)
            have hw := px_w_set (tc := tc) (ad := ad) (h := h) (h' := (h.1.set q (103, n, rs.set j.toNatClampNeg (some r)), h.2)) hq rfl (fun j0 hj0 => rfl) (fun j0 hj0 => rfl) (e := .inl (tc 3, n, .inr (.inr (.inr (.inr (va_up (fun j => (rs.getD j none).map ad) j.toNatClampNeg (some (ad r)))))))) (by
              unfold px_cell
              have : (fun j0 => ((rs.set j.toNatClampNeg (some r)).getD j0 none).map ad) = va_up (fun j => (rs.getD j none).map ad) j.toNatClampNeg (some (ad r)) := by
                funext j0
                unfold va_up
                by_cases hjj : j0 = j.toNatClampNeg
                · subst hjj
                  rw [if_pos rfl, List.getD_eq_getElem?_getD, List.getElem?_set_self hjl]; rfl
                · rw [if_neg hjj]
                  show Option.map ad ((rs.set j.toNatClampNeg (some r)).getD j0 none) = Option.map ad (rs.getD j0 none)
                  rw [List.getD_eq_getElem?_getD, List.getD_eq_getElem?_getD, List.getElem?_set_ne (fun q => hjj q.symm)]
              rw [if_neg (show ¬ (103 : Nat) < 100 by decide), if_neg (show ¬ (103 : Nat) = 100 by decide), if_neg (show ¬ (103 : Nat) = 101 by decide), if_neg (show ¬ (103 : Nat) = 102 by decide)]
              dsimp only
              rw [this])
            rw [hw] at hP1 hD1
            exact kk _ _ _ _ _ _ ⟨hP1, hD1, hS1, hL, hc1, hs1, by simpa using hn0, by simpa using hag⟩ hfar
          · cases hs
        · cases hs
      · cases hs
    · cases hs
  | new idx =>
    simp only [px_step] at hs
    have hn := of_decide_eq_true hn; simp only [px_len] at hn; subst hn
    simp only [px_chk2] at hc2
    split at hs
    · rename_i hcond
      obtain ⟨h9, hr1, hr2, htidy⟩ := hcond
      simp only [Option.some.injEq, Prod.mk.injEq] at hs
      obtain ⟨rfl, rfl, rfl, rfl⟩ := hs
      rw [Bool.or_eq_true] at hc2
      have hw := px_ln_of (hc2.resolve_left (by simpa using h9))
      have hfs : ∀ (ad' : Nat → Nat) (d' : Nat → Int32), (∀ j, d' j = 0) → (List.range (px_nf a)).map (px_fv ad' a (List.replicate (px_nf a) none) d') = (List.range (px_nf a)).map (px_fv ad a (List.replicate (px_nf a) none) (fun _ => 0)) := by
        intro ad' d' hd'
        apply List.map_congr_left
        intro j hj
        unfold px_fv
        have : (List.replicate (px_nf a) (none : Option Nat)).getD j none = none := by
          rw [List.getD_eq_getElem?_getD, List.getElem?_replicate]; split <;> rfl
        rw [this, hd']
      refine va_new (ci := a) (fs := (List.range (px_nf a)).map (px_fv ad a (List.replicate (px_nf a) none) (fun _ => 0))) hx hb hts (px_ws_in h9) (px_ty a) (px_ty_ok h9) hown (hts _ hw.1) (hts _ hw.2.1) (hts _ hw.2.2) hK hP hD hS hA (px_cl_at h9) (fun j hj => ?_) (by omega) (by omega) hd (fun q H1 hP1 hD1 hS1 => ?_)
      · unfold vp_V
        rw [List.getD_eq_getElem?_getD, List.getElem?_map, List.getElem?_range hj]
        show _ = px_fv ad a (List.replicate (px_nf a) none) (fun _ => 0) j
        have hf := px_fd_ok h9 j hj
        unfold px_fv
        by_cases hk : px_kind a j < 2
        · rw [if_pos hk]
          rcases (show px_kind a j = 0 ∨ px_kind a j = 1 by omega) with h0 | h0
          · rw [hf.2.2.1 h0]; rfl
          · rw [hf.2.2.2.1 h0]; rfl
        · rw [if_neg hk]
          have : (List.replicate (px_nf a) (none : Option Nat)).getD j none = none := by
            rw [List.getD_eq_getElem?_getD, List.getElem?_replicate]; split <;> rfl
          rw [this]
          exact (hf.2.2.2.2 hk).2.2.2
      · have htl : h.1.length < 1000 := by
          simp only [px_tidy, Bool.and_eq_true, decide_eq_true_eq] at htidy
          exact htidy.1.1.1
        have hz := px_Zr_push (n := px_nf a) (q := q) (h' := (h.1 ++ [(a, px_nf a, List.replicate (px_nf a) none)], px_clr h.2.1 h.1.length, h.2.2)) Z0 htidy rfl (fun j hj => by simp only [px_clr, px_row, if_neg (show ¬ j = h.1.length by omega)]) (fun j hj => rfl) (by
          unfold px_cell
          rw [if_pos (show a < 100 by omega)]
          dsimp only
          rw [hfs _ _ (fun j => by simp [px_clr, px_row])]) hP1 hD1 hS1 hr1 hr2
        have k2 := kk _ _ _ _ _ _ hz.1 (fun i hi => by simp only [if_neg (show ¬ i = h.1.length by omega)]; exact hfar i hi)
        simp only [List.map_cons, px_rl, if_true] at k2
        rw [hz.2]
        exact k2
    · cases hs
  | newarray t =>
    simp only [px_step] at hs
    have hn := of_decide_eq_true hn; simp only [px_len] at hn; subst hn
    simp only [px_chk2, decide_eq_true_eq] at hc2
    split at hs
    · rename_i w st0
      split at hs
      · rename_i hcond
        obtain ⟨hneg, hby, ha1, ha2, hr1, hr2, htidy⟩ := hcond
        simp only [Option.some.injEq, Prod.mk.injEq] at hs
        obtain ⟨rfl, rfl, rfl, rfl⟩ := hs
        obtain ⟨ty, hty, hww, hor⟩ := px_atag_of hc2 ha1
        obtain ⟨i0, a0, hti, hcell, hvp, hcb⟩ := px_zero_cell a hor w.toNatClampNeg ad tc
        refine va_newa hx hb (by rw [hty]; exact hts _ hww) hty hK hP hD hS hA hvp hneg rfl (Nat.le_trans (Nat.mul_le_mul_left _ hcb) hby) (by omega) (by omega) hd (fun q cA H1 hK1 hP1 hD1 hS1 => ?_)
        have hcA := px_ca_of hK1 hti
        subst hcA
        have htl : h.1.length < 1000 ∧ st0.all (px_vok h.1.length) = true := by
          simp only [px_tidy, Bool.and_eq_true, decide_eq_true_eq] at htidy
          exact ⟨htidy.1.1.1, htidy.1.2⟩
        have htidy2 : px_tidy h.1 L st0 = true := by
          simp only [px_tidy, Bool.and_eq_true, decide_eq_true_eq] at htidy ⊢
          exact ⟨⟨htidy.1.1, htl.2⟩, htidy.2⟩
        have hz := px_Zr_push (n := w.toNatClampNeg) (q := q) (h' := (h.1 ++ [(a, w.toNatClampNeg, [])], px_clr h.2.1 h.1.length, px_clrL h.2.2 h.1.length)) Z0 htidy2 rfl (fun j hj => by simp only [px_clr, px_row, if_neg (show ¬ j = h.1.length by omega)]) (fun j hj => by simp only [px_clrL, px_rowL, if_neg (show ¬ j = h.1.length by omega)]) (by
          rw [← hcell]
          simp only [px_clr, px_row, px_clrL, px_rowL, if_true]
          unfold px_cell
          have hna : ¬ a < 100 := by omega
          have hnb : a = 100 ∨ a = 101 ∨ a = 102 := by omega
          rcases hnb with rfl | rfl | rfl <;> simp) hP1 hD1 hS1 hr1 hr2
        have k2 := kk _ _ _ _ _ _ hz.1 (fun i hi => by simp only [if_neg (show ¬ i = h.1.length by omega)]; exact hfar i hi)
        simp only [List.map_cons, px_rl, if_true] at k2
        rw [hz.2]
        exact k2
      · cases hs
    · cases hs
  | anewarray idx =>
    simp only [px_step] at hs
    have hn := of_decide_eq_true hn; simp only [px_len] at hn; subst hn
    simp only [px_chk2] at hc2
    have hw := px_la_of hc2
    split at hs
    · rename_i w st0
      split at hs
      · rename_i hcond
        obtain ⟨hneg, hby, rfl, hr1, hr2, htidy⟩ := hcond
        simp only [Option.some.injEq, Prod.mk.injEq] at hs
        obtain ⟨rfl, rfl, rfl, rfl⟩ := hs
        refine va_newq hx hb hown (hts _ hw) hE.2.1 hK hP hD hS hA hneg rfl hby (by omega) (by omega) hd (fun q cA H1 hK1 hP1 hD1 hS1 => ?_)
        have hcA := px_ca_of (tys := px_tys tc) (i := 3) hK1 rfl
        subst hcA
        have htl : h.1.length < 1000 ∧ st0.all (px_vok h.1.length) = true := by
          simp only [px_tidy, Bool.and_eq_true, decide_eq_true_eq] at htidy
          exact ⟨htidy.1.1.1, htidy.1.2⟩
        have htidy2 : px_tidy h.1 L st0 = true := by
          simp only [px_tidy, Bool.and_eq_true, decide_eq_true_eq] at htidy ⊢
          exact ⟨⟨htidy.1.1, htl.2⟩, htidy.2⟩
        have hz := px_Zr_push (n := w.toNatClampNeg) (q := q) (h' := (h.1 ++ [(103, w.toNatClampNeg, List.replicate w.toNatClampNeg none)], h.2)) Z0 htidy2 rfl (fun j hj => rfl) (fun j hj => rfl) (by
          unfold px_cell
          have : (fun j0 => ((List.replicate w.toNatClampNeg (none : Option Nat)).getD j0 none).map (fun i => if i = h.1.length then q else ad i)) = fun _ => none := by
            funext j0
            have : (List.replicate w.toNatClampNeg (none : Option Nat)).getD j0 none = none := by
              rw [List.getD_eq_getElem?_getD, List.getElem?_replicate]; split <;> rfl
            rw [this]; rfl
          rw [if_neg (show ¬ (103 : Nat) < 100 by decide), if_neg (show ¬ (103 : Nat) = 100 by decide), if_neg (show ¬ (103 : Nat) = 101 by decide), if_neg (show ¬ (103 : Nat) = 102 by decide)]
          dsimp only
          rw [this]) hP1 hD1 hS1 hr1 hr2
        have k2 := kk _ _ _ _ _ _ hz.1 (fun i hi => by simp only [if_neg (show ¬ i = h.1.length by omega)]; exact hfar i hi)
        simp only [List.map_cons, px_rl, if_true] at k2
        rw [hz.2]
        exact k2
      · cases hs
    · cases hs
  | _ =>
    simp only [px_step] at hs
    split at hs
    · split at hs
      · rename_i w0 hal
        have hn := of_decide_eq_true hn
        rw [px_alu_len hal] at hn; subst hn
        simp only [Option.some.injEq, Prod.mk.injEq] at hs
        obtain ⟨rfl, rfl, rfl, rfl⟩ := hs
        exact px_go_alu hx hb hd hal (kk _ _ _ _ _ _ Z0 hfar)
      · split at hs
        · rename_i w0 hal
          have hn := of_decide_eq_true hn
          rw [px_une_len hal] at hn; subst hn
          simp only [Option.some.injEq, Prod.mk.injEq] at hs
          obtain ⟨rfl, rfl, rfl, rfl⟩ := hs
          exact px_go_une (ad := ad) (z := z) hx hb hd hal (kk _ _ _ _ _ _ Z0 hfar)
        · cases hs
    · split at hs
      · rename_i w0 hal
        have hn := of_decide_eq_true hn
        rw [px_une_len hal] at hn; subst hn
        simp only [Option.some.injEq, Prod.mk.injEq] at hs
        obtain ⟨rfl, rfl, rfl, rfl⟩ := hs
        exact px_go_une (ad := ad) (z := z) hx hb hd hal (kk _ _ _ _ _ _ Z0 hfar)
      · cases hs
    · cases hs
end PXW
