theorem px_to_some {k t : Nat} (hok : px_ok k) {x : px_I} {r : List px_I} (h : px_to k t = x :: r) : px_fine k (px_to k t) ∧ x.1 = t := by
  unfold px_to at h ⊢
  cases hlk : (px_blk k).lookup t with
  | none => rw [hlk] at h; cases h
  | some w =>
    rw [hlk] at h
    obtain ⟨l1, l2, hl, -⟩ := List.lookup_eq_some_iff.mp hlk
    obtain ⟨h1, x', r', h2, h3⟩ := hok (t, w) (by rw [hl]; simp)
    refine ⟨h1, ?_⟩
    have h4 : w = x :: r := h
    have h5 : w = x' :: r' := h2
    rw [h4] at h5
    cases h5
    exact h3
theorem px_next {k pc n a b : Nat} {i : Instr} {v : Int32} {suf : List px_I} (h : px_fine k ((pc, i, n, a, b, v) :: suf)) (hi : (∀ d lo hi os, i ≠ .tableswitch d lo hi os) ∧ ∀ d ps, i ≠ .lookupswitch d ps) : ∀ x ∈ suf.head?, x.1 = pc + n := by
  intro x hx
  cases suf with
  | nil => cases hx
  | cons y s =>
    cases hx
    have h2 := h.2
    simp only [px_chain, Bool.and_eq_true] at h2
    have h3 := h2.1
    split at h3
    · exact absurd rfl (hi.1 _ _ _ _)
    · exact absurd rfl (hi.2 _ _)
    · exact of_decide_eq_true h3
theorem px_step_sw {X : px_X} {ini pc a b : Nat} {rem : Nat × Nat} {i : Instr} {v : Int32} {L st L' st' : List Value} {h h' : px_H} (hs : px_step X ini rem pc i a b v L st h = some (none, L', st', h')) : (∀ d lo hi os, i ≠ .tableswitch d lo hi os) ∧ ∀ d ps, i ≠ .lookupswitch d ps := by
  constructor
  · rintro d lo hi os rfl
    simp only [px_step] at hs
    split at hs
    · split at hs
      · cases hs
      · split at hs <;> cases hs
    · cases hs
  · rintro d ps rfl
    simp only [px_step] at hs
    split at hs
    · split at hs <;> cases hs
    · cases hs
set_option maxHeartbeats 4000000 in
theorem px_sound_succ {l : Launch} {X : px_X} {N : Nat} (hS : px_Sound l X N) (hok : ∀ k, k ≤ px_law → px_ok k) : px_Sound l X (N + 1) := by
  intro k rem suf L st h v h' hrun hk hfine p e R s m args below meth c Q D tc z A ad0 n0 ad ls H locs cells slots pc C hfar Z hpc fin
  cases suf with
  | nil => simp [px_run] at hrun
  | cons x suf =>
    obtain ⟨pc0, i, n, a, b, w⟩ := x
    have hpc0 : pc0 = pc := hpc _ rfl
    subst hpc0
    have hchk := hfine.1 _ List.mem_cons_self
    have hft := px_fine_tail hfine
    have hcall : ∀ (kd : Nat) (idx : Nat), ((kd = 0 ∧ i = .invokevirtual idx) ∨ (kd = 1 ∧ i = .invokestatic idx) ∨ (kd = 2 ∧ i = .invokespecial idx)) → px_inv k kd a idx n = true →
        (if px_cok kd a b rem L st h.1 = true then
          (match px_run X N a (px_mc a, px_ms a) (px_ct a) (px_ent (st.take b).reverse (px_mx a)) [] h with
          | some (r, h') => if (if px_mc a = 0 then decide (h'.1.length = h.1.length) else decide (h'.1.length ≤ 1000)) = true then px_run X N k (rem.1 - px_mc a, rem.2 - px_ms a) suf L (r.toList ++ st.drop b) h' else none
          | none => none) else none) = some (v, h') → W p l e R s m args below meth c H locs cells slots Q (F0 m pc0 ls (st.map (px_rl ad z))) := by
      intro kd idx hkd hinv hr
      have hn3 : n = 3 := by
        simp only [px_inv, Bool.and_eq_true, decide_eq_true_eq] at hinv
        exact hinv.1
      subst hn3
      have hd : decode (px_b k) pc0 = .ok (i, 3) := by
        simp only [px_chk, Bool.and_eq_true, decide_eq_true_eq] at hchk
        exact hchk.1.1
      split at hr
      · rename_i hcok
        split at hr
        · rename_i r h1 hr1
          by_cases hg : (if px_mc a = 0 then decide (h1.1.length = h.1.length) else decide (h1.1.length ≤ 1000)) = true
          · rw [if_pos hg] at hr
            obtain ⟨aa, hva⟩ := px_callRun hS hok hkd hcok hr1 C hfar Z hd hinv
            have C0 := C
            obtain ⟨hx, hb, hml, hown, hts, hK, hA, hE, hi, hfr, hlo⟩ := C
            obtain ⟨hP, hD, hSS, hL, hc1, hs1, hn0, hag⟩ := Z
            refine px_goon rfl hva hD hSS hA (fun ad' H1 locs1 hag1 hP1 hD1 hle hS1 => ?_)
            simp only [px_cok, Bool.and_eq_true, decide_eq_true_eq] at hcok
            obtain ⟨⟨⟨⟨⟨⟨⟨⟨⟨⟨⟨ha, ha2⟩, hbl⟩, hbn⟩, hsta⟩, hsum⟩, hmc⟩, hms⟩, htidy⟩, hrcv⟩, hini⟩, hentl⟩ := hcok
            have hcong : (∀ v ∈ L, px_rl ad z v = px_rl ad' z v) ∧ (∀ v ∈ st.drop b, px_rl ad z v = px_rl ad' z v) ∧ ∀ i, 1000 ≤ i → ad' i = ad i := by
              by_cases hm0 : px_mc a = 0
              · rw [if_pos hm0] at hg
                have hl := of_decide_eq_true hg
                have : ad' = ad := funext fun i => hag1 i (by omega)
                subst this
                exact ⟨fun _ _ => rfl, fun _ _ => rfl, fun _ _ => rfl⟩
              · rw [if_neg hm0] at hg
                have hl := of_decide_eq_true hg
                rw [Bool.or_eq_true] at htidy
                have ht := htidy.resolve_left (by simpa using hm0)
                simp only [px_tidy, Bool.and_eq_true, decide_eq_true_eq] at ht
                have hag2 : ∀ i, (i < h.1.length ∨ 1000 ≤ i) → ad' i = ad i := fun i hi => hag1 i (by omega)
                exact ⟨fun v hv => px_rl_cong hag2 (List.all_eq_true.mp ht.1.1.2 v hv), fun v hv => px_rl_cong hag2 (List.all_eq_true.mp ht.1.2 v hv), fun i hi => hag2 i (Or.inr hi)⟩
            have e1 : (st.drop b).map (px_rl ad z) = (st.drop b).map (px_rl ad' z) := List.map_congr_left hcong.2.1
            have e2 : (r.map (px_rl ad' z)).toList ++ (st.drop b).map (px_rl ad z) = (r.toList ++ st.drop b).map (px_rl ad' z) := by
              rw [e1, List.map_append]
              cases r <;> rfl
            rw [e2]
            exact hS k _ _ _ _ _ _ _ hr hk hft C0 (fun i hi => (hcong.2.2 i hi).trans (hfar i hi)) ⟨hP1, hD1, hS1, hL.cong hcong.1, by simp only []; omega, by simp only []; omega, Nat.le_trans hn0 hle, fun i hi => (hag1 i (by omega)).trans (hag i (by omega))⟩
              (px_next hfine (by rcases hkd with ⟨-, rfl⟩ | ⟨-, rfl⟩ | ⟨-, rfl⟩ <;> simp)) fin
          · rw [if_neg hg] at hr
            cases hr
        · cases hr
      · cases hr
    have hbase : ∀ {i' : Instr}, i = i' → (∀ d lo hi os, i' ≠ .tableswitch d lo hi os) → (∀ d ps, i' ≠ .lookupswitch d ps) → decode (px_b k) pc0 = .ok (i', px_len i') ∧ px_chk2 k pc0 i' (px_len i') a b w = true ∧ n = px_len i' := by
      rintro i' rfl h1 h2
      simp only [px_chk, Bool.and_eq_true, decide_eq_true_eq] at hchk
      obtain ⟨⟨hd, hc2⟩, hn⟩ := hchk
      subst hn
      exact ⟨hd, hc2, rfl⟩
    unfold px_run at hrun
    dsimp only at hrun
    split at hrun
    · -- ireturn
      obtain ⟨hd, -, hn⟩ := hbase rfl (by simp) (by simp)
      split at hrun
      · split at hrun
        · rename_i y hy
          simp only [Option.some.injEq, Prod.mk.injEq] at hrun
          obtain ⟨rfl, rfl⟩ := hrun
          exact fin ad pc0 _ ls H locs cells slots hd (Or.inl ⟨rfl, y, rfl, hy⟩) Z.fin
        · cases hrun
      · cases hrun
    · obtain ⟨hd, -, hn⟩ := hbase rfl (by simp) (by simp)
      split at hrun
      · split at hrun
        · rename_i y hy
          simp only [Option.some.injEq, Prod.mk.injEq] at hrun
          obtain ⟨rfl, rfl⟩ := hrun
          exact fin ad pc0 _ ls H locs cells slots hd (Or.inr (Or.inl ⟨rfl, ⟨y, rfl⟩, hy⟩)) Z.fin
        · cases hrun
      · cases hrun
    · obtain ⟨hd, -, hn⟩ := hbase rfl (by simp) (by simp)
      split at hrun
      · split at hrun
        · rename_i y hy
          simp only [Option.some.injEq, Prod.mk.injEq] at hrun
          obtain ⟨rfl, rfl⟩ := hrun
          exact fin ad pc0 _ ls H locs cells slots hd (Or.inr (Or.inr (Or.inl ⟨rfl, ⟨y, rfl⟩, hy⟩))) Z.fin
        · cases hrun
      · cases hrun
    · obtain ⟨hd, -, hn⟩ := hbase rfl (by simp) (by simp)
      split at hrun
      · split at hrun
        · rename_i hy
          simp only [Option.some.injEq, Prod.mk.injEq] at hrun
          obtain ⟨rfl, rfl⟩ := hrun
          exact fin ad pc0 _ ls H locs cells slots hd (Or.inr (Or.inr (Or.inr ⟨rfl, rfl, hy⟩))) Z.fin
        · cases hrun
      · cases hrun
    · -- invokevirtual
      rename_i idx
      obtain ⟨hd, hc2, hn⟩ := hbase rfl (by simp) (by simp)
      exact hcall 0 idx (Or.inl ⟨rfl, rfl⟩) (by rw [hn]; exact hc2) hrun
    · -- invokestatic
      rename_i idx
      obtain ⟨hd, hc2, hn⟩ := hbase rfl (by simp) (by simp)
      have C0 := C
      have Z0 := Z
      obtain ⟨hx, hb, hml, hown, hts, hK, hA, hE, hi, hfr, hlo⟩ := C
      obtain ⟨hP, hD, hSS, hL, hc1, hs1, hn0, hag⟩ := Z
      have hz := hE.2.2.1
      have hnx := px_next hfine ⟨by simp, by simp⟩
      rw [hn] at hnx
      have hsp : 9001 ≤ a → a ≤ 9004 → Cond.methodLink (px_own k) idx (px_cy a) ∈ px_Ts ∧ (∀ w ∈ px_mwords a, w ∈ px_Ts) ∧ 1 ≤ R.frames ∧ 26 ≤ R.locals := by
        intro h1 h2
        have hc3 : px_inv k 1 a idx 3 = true := hc2
        simp only [px_inv, Bool.and_eq_true, Bool.or_eq_true, decide_eq_true_eq] at hc3
        have h3 := hc3.2.resolve_left (by omega)
        rw [if_neg (by omega), if_neg (by omega)] at h3
        simp only [Bool.and_eq_true, decide_eq_true_eq] at h3
        obtain ⟨nest, w1, w2, w3⟩ := px_lk_all h3.1
        have w3 := w3 (by omega)
        rw [if_pos w3] at w1
        unfold px_mlink at w1
        rw [if_pos w3] at w1
        exact ⟨w1, w2, by omega, by omega⟩
      have hlocs : c.maxLocals = ls.size := hml.trans hL.1.symm
      have hcl : cells ≤ R.cells ∧ slots ≤ R.slots := by omega
      split at hrun
      · rename_i ha
        subst ha
        obtain ⟨w1, w2, r1, r2⟩ := hsp (by omega) (by omega)
        split at hrun
        · rename_i nn dp dst sp src st0
          split at hrun
          · rename_i hsum
            split at hrun
            · rename_i de hcp
              unfold px_cpy at hcp
              split at hcp
              · rename_i t0 n0' rs0 hsrc
                split at hcp
                · rename_i t1 n1' rs1 hdst
                  split at hcp
                  · rename_i hcond
                    obtain ⟨rfl, q0, q1, g1, g2, g3, g4, g5⟩ := hcond
                    have hw2 : ∀ w ∈ [Cond.native arraycopyName, .static arraycopyName, .initialized "java/lang/System"], w ∈ px_Ts := w2
                    split at hcp
                    · rename_i ht
                      subst ht
                      cases hcp
                      refine va_copyi hx hb hlocs hown (hts _ w1) (hts _ (hw2 _ (by simp))) (hts _ (hw2 _ (by simp))) (hts _ (hw2 _ (by simp))) hK hP hD hSS src dst 0 0 (px_w_at (tc := tc) (ad := ad) hsrc) (px_w_at (tc := tc) (ad := ad) hdst) rfl rfl rfl g1 g2 g3 g4 g5 (fun _ _ => rfl) r1 (by rw [px_sum_map hz]; have hnf : nativeFrameWords "java/lang/System" "arraycopy" 5 = 7 := (by decide); rw [hnf]; omega) hd (fun H1 locs1 hP1 hD1 hS1 => ?_)
                      have hw := px_w_set (tc := tc) (ad := ad) (h := h) (h' := (h.1, px_row h.2.1 dst (va_cpy (h.2.1 src) (h.2.1 dst) sp.toNatClampNeg dp.toNatClampNeg nn.toNatClampNeg), h.2.2)) hdst (px_set_same hdst) (fun j hj => by simp only [px_row, if_neg hj]) (fun j hj => rfl) (e := .inl (tc 0, n1', .inl (va_cpy (h.2.1 src) (h.2.1 dst) sp.toNatClampNeg dp.toNatClampNeg nn.toNatClampNeg))) (by
                        unfold px_cell
                        simp [px_row])
                      rw [hw] at hP1 hD1
                      exact hS k _ _ _ _ _ _ _ hrun hk hft C0 hfar ⟨hP1, hD1, hS1, hL, hc1, hs1, hn0, hag⟩ hnx fin
                    · split at hcp
                      · rename_i ht
                        subst ht
                        cases hcp
                        refine va_copyl hx hb hlocs hown (hts _ w1) (hts _ (hw2 _ (by simp))) (hts _ (hw2 _ (by simp))) (hts _ (hw2 _ (by simp))) hK hP hD hSS src dst 2 2 (px_w_at (tc := tc) (ad := ad) hsrc) (px_w_at (tc := tc) (ad := ad) hdst) rfl rfl rfl g1 g2 g3 g4 g5 (fun _ _ => rfl) r1 (by rw [px_sum_map hz]; have hnf : nativeFrameWords "java/lang/System" "arraycopy" 5 = 7 := (by decide); rw [hnf]; omega) hd (fun H1 locs1 hP1 hD1 hS1 => ?_)
                        have hw := px_w_set (tc := tc) (ad := ad) (h := h) (h' := (h.1, h.2.1, px_rowL h.2.2 dst (va_cpy (h.2.2 src) (h.2.2 dst) sp.toNatClampNeg dp.toNatClampNeg nn.toNatClampNeg))) hdst (px_set_same hdst) (fun j hj => rfl) (fun j hj => by simp only [px_rowL, if_neg hj]) (e := .inl (tc 2, n1', .inr (.inl (va_cpy (h.2.2 src) (h.2.2 dst) sp.toNatClampNeg dp.toNatClampNeg nn.toNatClampNeg)))) (by
                          unfold px_cell
                          simp [px_rowL])
                        rw [hw] at hP1 hD1
                        exact hS k _ _ _ _ _ _ _ hrun hk hft C0 hfar ⟨hP1, hD1, hS1, hL, hc1, hs1, hn0, hag⟩ hnx fin
                      · cases hcp
                  · cases hcp
                · cases hcp
              · cases hcp
            · cases hrun
          · cases hrun
        · cases hrun
      · split at hrun
        · rename_i ha
          subst ha
          obtain ⟨w1, w2, r1, r2⟩ := hsp (by omega) (by omega)
          have hw2 : ∀ w ∈ [Cond.static Lib.Math.abs.name, .initialized "java/lang/Math", .code Lib.Math.abs.name Lib.Math.abs.code 1 (some .int)], w ∈ px_Ts := w2
          split at hrun
          · split at hrun
            · rename_i hsum
              refine va_mabs hx hb hlocs hown (hts _ w1) (hts _ (hw2 _ (by simp))) (hts _ (hw2 _ (by simp))) (hts _ (hw2 _ (by simp))) r1 (by rw [px_sum_map hz]; omega) hcl.1 hcl.2 hd ?_
              exact hS k _ _ _ _ _ _ _ hrun hk hft C0 hfar Z0 hnx fin
            · cases hrun
          · cases hrun
        · split at hrun
          · rename_i ha
            subst ha
            obtain ⟨w1, w2, r1, r2⟩ := hsp (by omega) (by omega)
            have hw2 : ∀ w ∈ [Cond.static Lib.Math.max.name, .initialized "java/lang/Math", .code Lib.Math.max.name Lib.Math.max.code 2 (some .int)], w ∈ px_Ts := w2
            split at hrun
            · split at hrun
              · rename_i hsum
                refine va_mmax hx hb hlocs hown (hts _ w1) (hts _ (hw2 _ (by simp))) (hts _ (hw2 _ (by simp))) (hts _ (hw2 _ (by simp))) r1 (by rw [px_sum_map hz]; omega) hcl.1 hcl.2 hd ?_
                exact hS k _ _ _ _ _ _ _ hrun hk hft C0 hfar Z0 hnx fin
              · cases hrun
            · cases hrun
          · split at hrun
            · rename_i ha
              subst ha
              obtain ⟨w1, w2, r1, r2⟩ := hsp (by omega) (by omega)
              have hw2 : ∀ w ∈ [Cond.static Lib.Math.min.name, .initialized "java/lang/Math", .code Lib.Math.min.name Lib.Math.min.code 2 (some .int)], w ∈ px_Ts := w2
              split at hrun
              · split at hrun
                · rename_i hsum
                  refine va_mmin hx hb hlocs hown (hts _ w1) (hts _ (hw2 _ (by simp))) (hts _ (hw2 _ (by simp))) (hts _ (hw2 _ (by simp))) r1 (by rw [px_sum_map hz]; omega) hcl.1 hcl.2 hd ?_
                  exact hS k _ _ _ _ _ _ _ hrun hk hft C0 hfar Z0 hnx fin
                · cases hrun
              · cases hrun
            · exact hcall 1 idx (Or.inr (Or.inl ⟨rfl, rfl⟩)) (by rw [hn]; exact hc2) hrun
    · -- invokespecial
      rename_i idx
      obtain ⟨hd, hc2, hn⟩ := hbase rfl (by simp) (by simp)
      split at hrun
      · rename_i ha
        subst ha
        split at hrun
        · rename_i q st0
          split at hrun
          · rename_i hsum
            have C0 := C
            obtain ⟨hx, hb, hml, hown, hts, hK, hA, hE, hi, hfr, hlo⟩ := C
            have hc3 : px_inv k 2 9000 idx 3 = true := hc2
            simp only [px_inv, Bool.and_eq_true, Bool.or_eq_true, decide_eq_true_eq] at hc3
            have h3 := hc3.2.resolve_left (by omega)
            rw [if_neg (by omega), if_pos trivial] at h3
            simp only [Bool.and_eq_true, decide_eq_true_eq] at h3
            obtain ⟨nest, w1, w2, w3⟩ := px_lk_all h3.1
            have w3 := w3 (by omega)
            rw [if_pos w3] at w1
            unfold px_mlink at w1
            rw [if_pos w3] at w1
            have hnx := px_next hfine ⟨by simp, by simp⟩
            rw [hn] at hnx
            have hr2 := lv_room (m := m) (pc := pc0) (ls := ls) (rest := (Value.ref q :: st0).map (px_rl ad z)) (st := st0.map (px_rl ad z)) (by rw [px_sum_map hE.2.2.1]; exact hsum)
            refine W.objInit hx hb hown (hts _ w1) (hts _ (w2 _ (List.mem_singleton.mpr rfl))) (hts _ (px_hasL_mem px_misc_ok _ (by simp))) rfl (Z.2.2.2.1.1.trans hml.symm) rfl hd (by omega) (Nat.le_trans (Nat.add_le_add_right hr2 12) (by omega)) ?_
            exact hS k _ _ _ _ _ _ _ hrun hk hft C0 hfar Z hnx fin
          · cases hrun
        · cases hrun
      · exact hcall 2 idx (Or.inr (Or.inr ⟨rfl, rfl⟩)) (by rw [hn]; exact hc2) hrun
    · -- all else
      split at hrun
      · rename_i L1 st1 h1 hs
        refine px_stepW C hchk hs hfar Z (fun ad' ls' H' locs' cells' slots' Z' hfar' => ?_)
        exact hS k _ _ _ _ _ _ _ hrun hk hft C hfar' Z' (px_next hfine (px_step_sw hs)) fin
      · rename_i t L1 st1 h1 hs
        refine px_stepW C hchk hs hfar Z (fun ad' ls' H' locs' cells' slots' Z' hfar' => ?_)
        cases hto : px_to k t with
        | nil =>
          rw [hto] at hrun
          cases N <;> simp [px_run] at hrun
        | cons x r =>
          have h2 := px_to_some (hok k hk) hto
          refine hS k _ _ _ _ _ _ _ hrun hk h2.1 C hfar' Z' (fun y hy => ?_) fin
          rw [hto] at hy
          cases hy
          exact h2.2
      · cases hrun

theorem px_sound (l : Launch) (X : px_X) (hok : ∀ k, k ≤ px_law → px_ok k) : ∀ N, px_Sound l X N
  | 0 => fun k rem suf L st h v h' hrun => by simp [px_run] at hrun
  | N + 1 => px_sound_succ (px_sound l X hok N) hok
