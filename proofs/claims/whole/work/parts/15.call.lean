section PXC
variable {p : Program} {l : Launch} {e : Env} {R : Room} {s : State} {m : MethodId} {args : Array Value} {below : List Frame} {meth : Method} {c : Code} {H : Heap} {locs : List Loc} {cells slots : Nat} {Q : State → Prop}
variable {D : va_G} {tc : Nat → ClassId} {X : px_X} {z : Value} {A : Nat → Prop} {ad0 ad : Nat → Nat} {n0 k : Nat}
/-- behind a call -/
theorem px_goon {pc mc ms sz : Nat} {ls : Array Slot} {st0 rest : List Value} {a : Array Value} {h h1 : px_H} {v : Option Value} (hsz : sz = H.size)
    (hr : va_Run p l e R s m args below meth c H locs cells slots mc ms (F0 m pc ls st0) rest (px_Qc D tc z ad h sz v h1 a) (va_A (px_w tc ad h) sz)) (hD : va_D A (px_w tc ad h)) (hS : va_S A s.heap H locs) (hA : ∀ q : Nat, s.heap.size ≤ q → A q)
    (kk : ∀ (ad' : Nat → Nat) (H1 : Heap) (locs1 : List Loc), (∀ i, ¬ (h.1.length ≤ i ∧ i < h1.1.length) → ad' i = ad i) → va_P D vwCl (px_w tc ad' h1) H1 → va_D A (px_w tc ad' h1) → h.1.length ≤ h1.1.length → va_S A s.heap H1 locs1 → W p l e R s m args below meth c H1 locs1 (cells + mc) (slots + ms) Q (F0 m (pc + 3) ls ((v.map (px_rl ad' z)).toList ++ rest))) :
    W p l e R s m args below meth c H locs cells slots Q (F0 m pc ls st0) := by
  subst hsz
  have hAA : ∀ q, va_A (px_w tc ad h) H.size q → A q := by
    rintro q (⟨k, e, h⟩ | h)
    · exact hD.2 k (q, e) h
    · exact hA q (Nat.le_trans hS.1 h)
  intro T hT X'
  obtain ⟨v0, st₀, t, T', L, h0, X', hL, e1, e2, ⟨⟨⟨ad', hag, hv, hP1, hD1⟩, hle⟩, hz, hk⟩, st⟩ := hr T hT X'
  cases hv
  rw [h0] at hz hk
  obtain ⟨t2, a1, b1⟩ := kk ad' T'.heap (locs ++ L) hag (by rw [e1]; exact hP1) (hD1.weaken (fun _ q _ h => hAA q.1 h)) hle
    ⟨Nat.le_trans hS.1 (by rw [e1]; exact hz), fun q h1 h2 => by rw [e1, hk q (Nat.lt_of_lt_of_le h1 hS.1) (fun z => h2 (hAA q z))]; exact hS.2.1 q h1 h2, fun q hq => by
      rcases List.mem_append.mp hq with h | h
      · exact hS.2.2 q h
      · exact hAA _ (hL q h)⟩ T' rfl X'
  exact ⟨t2, st t2 a1, b1⟩
theorem px_sum_map {ad : Nat → Nat} {z : Value} (hz : z.category = 1) (st : List Value) : ((st.map (px_rl ad z)).map fun v => v.category).sum = px_sum st := by
  unfold px_sum
  rw [List.map_map]
  congr 1
  apply List.map_congr_left
  intro v _
  exact px_rl_cat hz v
/-- the words of a call's link -/
theorem px_lk_all {idx a : Nat} (h : px_lk3 (px_cn k) idx a = true) : ∃ nest, (if nest = 0 then px_mlink (px_cn k) idx a nest ∈ px_Ts else px_mlink (px_cn k) idx a nest ∈ px_Tn) ∧ (∀ w ∈ px_mwords a, w ∈ px_Ts) ∧ (9000 ≤ a → nest = 0) := by
  obtain ⟨r, hr, h⟩ := List.any_eq_true.mp h
  obtain ⟨r1, r2, r3, r4, r5⟩ := r
  simp only [Bool.and_eq_true, decide_eq_true_eq] at h
  obtain ⟨⟨rfl, rfl⟩, rfl⟩ := h
  have h2 := List.all_eq_true.mp px_LM_ok _ hr
  simp only [px_lmc, Bool.and_eq_true, decide_eq_true_eq, Bool.or_eq_true] at h2
  obtain ⟨⟨⟨b1, b2⟩, b3⟩, b4⟩ := h2
  refine ⟨r4, ?_, px_hasL_mem b2, fun h9 => b4.resolve_left (by omega)⟩
  unfold px_hasB at b1
  by_cases h0 : r4 = 0
  · rw [if_pos h0] at b1 ⊢; exact px_has_mem b1
  · rw [if_neg h0] at b1 ⊢; exact px_hasN_mem b1
theorem px_args_split {b : Nat} {st : List Value} {q : Addr} {vs : List Value} (h : (st.take b).reverse = .ref q :: vs) : st = vs.reverse ++ .ref q :: st.drop b := by
  have h1 : st.take b = vs.reverse ++ [.ref q] := by
    have := congrArg List.reverse h
    rw [List.reverse_reverse, List.reverse_cons] at this
    exact this
  have h2 := List.take_append_drop b st
  rw [h1, List.append_assoc] at h2
  exact h2.symm
/-- the receiver -/
theorem px_recv {a q : Nat} {h : px_H} (ha : a < px_law ∧ (a < 248 ∨ 250 < a)) (hrcv : px_rcv a h.1 (.ref q) = true) (hfar : ∀ i, 1000 ≤ i → ad i = ad0 i) (hK : va_K D vwCl (px_tys tc) s) (hE : px_Ex ad0 z X A s s.heap) (hP : va_P D vwCl (px_w tc ad h) H) (hS : va_S A s.heap H locs) :
    ∃ cell : Cell, H[ad q]? = some cell ∧ cell.vm.isStatics = false ∧ s.vm.findClass (px_own a) = some cell.cls := by
  unfold px_rcv at hrcv
  dsimp only at hrcv
  split at hrcv
  · split at hrcv
    · rename_i t n rs hq
      simp only [Bool.and_eq_true, decide_eq_true_eq] at hrcv
      obtain ⟨rfl, h9⟩ := hrcv
      have he := px_w_at (tc := tc) (ad := ad) hq
      unfold px_cell at he
      rw [if_pos (show px_cn a < 100 by omega)] at he
      exact va_recv hK hP (px_cl_at h9) he
    · cases hrcv
  · rename_i hq
    simp only [Bool.and_eq_true, decide_eq_true_eq] at hrcv
    obtain ⟨e1, e2, e3, e4, e5⟩ := px_far_e q hq hrcv.2
    have := vk_recv hE.2.2.2.1 e3 hS
    simp only [e1] at this
    rw [hfar q e4]
    unfold px_own
    rw [hrcv.1]
    exact this
def px_irB (k : Nat) : Bool := decide (px_ini k = 0) || decide (px_rt k = none)
set_option maxRecDepth 100000 in
theorem px_ir_all : (List.range 260).all px_irB = true := by decide +kernel
theorem px_ini_ret {a : Nat} (ha : a < px_law) (h : 0 < px_ini a) : px_rt a = none := by
  have := List.all_eq_true.mp px_ir_all a (List.mem_range.mpr ha)
  simp only [px_irB, Bool.or_eq_true, decide_eq_true_eq] at this
  exact this.resolve_left (by omega)
set_option maxHeartbeats 1000000 in
/-- the run of a callee -/
theorem px_callRun {kd a b idx pc N : Nat} {i : Instr} {rem : Nat × Nat} {L st : List Value} {h h1 : px_H} {r : Option Value} {ls : Array Slot} (hSo : px_Sound l X N) (hok : ∀ k, k ≤ px_law → px_ok k)
    (hkd : (kd = 0 ∧ i = .invokevirtual idx) ∨ (kd = 1 ∧ i = .invokestatic idx) ∨ (kd = 2 ∧ i = .invokespecial idx))
    (hcok : px_cok kd a b rem L st h.1 = true) (hrun : px_run X N a (px_mc a, px_ms a) (px_ct a) (px_ent (st.take b).reverse (px_mx a)) [] h = some (r, h1))
    (C : px_Cx D tc X z A ad0 k p R s m args meth c) (hfar : ∀ i, 1000 ≤ i → ad i = ad0 i) (Z : px_Zr D tc z A ad0 n0 k R s ad h ls L cells slots rem H locs)
    (hd : decode (px_b k) pc = .ok (i, 3)) (hinv : px_inv k kd a idx 3 = true) :
    ∃ aa : Array Value, va_Run p l e R s m args below meth c H locs cells slots (px_mc a) (px_ms a) (F0 m pc ls (st.map (px_rl ad z))) ((st.drop b).map (px_rl ad z)) (px_Qc D tc z ad h H.size r h1 aa) (va_A (px_w tc ad h) H.size) := by
  obtain ⟨hx, hb, hml, hown, hts, hK, hA, hE, hi, hfr, hlo⟩ := C
  obtain ⟨hP, hD, hS, hL, hc1, hs1, hn0, hag⟩ := Z
  simp only [px_cok, Bool.and_eq_true, decide_eq_true_eq] at hcok
  obtain ⟨⟨⟨⟨⟨⟨⟨⟨⟨⟨⟨ha, ha2⟩, hbl⟩, hbn⟩, hsta⟩, hsum⟩, hmc⟩, hms⟩, htidy⟩, hrcv⟩, hini⟩, hentl⟩ := hcok
  have hk2 : a < px_law ∧ (a < 248 ∨ 250 < a) := ⟨ha, ha2⟩
  have hal : a < 260 := ha
  obtain ⟨hh1, hh2, hh3, hh4, hh5, hh6, hh7, hh8, hh9, hh10⟩ := px_hd_all hk2
  have hM := px_met hSo hok hk2 hentl hrun D tc z ad H.size
  simp only [px_inv, Bool.and_eq_true, Bool.or_eq_true, decide_eq_true_eq] at hinv
  obtain ⟨-, hinv⟩ := hinv
  have hinv := hinv.resolve_left (by omega)
  obtain ⟨hlk, hroom⟩ := hinv
  rw [if_pos hal] at hroom
  simp only [Bool.and_eq_true, decide_eq_true_eq] at hroom
  obtain ⟨nest, hw1, hw2, -⟩ := px_lk_all hlk
  have hcy : px_cy a = px_y a := by
    unfold px_cy
    rw [if_neg (by omega), if_neg (by omega), if_neg (by omega), if_neg (by omega), if_neg (by omega)]
  have hmw : px_mwords a = (if px_sta a = 1 then [.static (px_y a), .initialized (px_y a).cls] else if px_ini a = 0 then [.instanceMethod (px_y a), .selects (px_y a).cls (px_y a) (px_y a), .initialized (px_y a).cls] else [.instanceMethod (px_y a), .initialized (px_y a).cls]) := by
    unfold px_mwords
    rw [if_neg (by omega), if_neg (by omega), if_neg (by omega), if_neg (by omega), if_neg (by omega), hcy]
  rw [hmw] at hw2
  have hS5 : CallFix p m c (px_b k) (px_mx k) s args px_Ts (px_own k) := ⟨hx, hb, hml, hown, hts⟩
  have hR : (px_rm a).frames + 1 ≤ R.frames ∧ 8 + (px_mx a + 11) + (px_rm a).locals ≤ R.locals := ⟨Nat.le_trans hroom.1 hfr, Nat.le_trans hroom.2 hlo⟩
  have hPc : ∀ U : State, U.heap = H → s.WarmedH U.vm → px_Pc D tc X z ad h (st.take b).reverse H.size (((st.take b).reverse.map (px_rl ad z))).toArray U := fun U hU hW =>
    ⟨rfl, by rw [hU], by rw [hU]; exact hP, va_K.moved hW.alike hK, hD.weaken (fun _ _ _ _ => trivial), by
      rw [hU]
      exact (hE.move hW (fun q h1 h2 => hS.2.1 q h1 h2) (by
        rintro q (⟨k, e, h⟩ | h)
        · exact hD.2 k (q, e) h
        · exact hA q (Nat.le_trans hS.1 h))).ad hfar⟩
  have hbli := px_Pc_blind D tc X z ad h (st.take b).reverse H.size
  have hlocs : ls.size = px_mx k := hL.1
  have hWr := lv_room (m := m) (pc := pc) (ls := ls) (rest := st.map (px_rl ad z)) (st := (st.drop b).map (px_rl ad z)) (by rw [px_sum_map hE.2.2.1]; exact hsum)
  have hf : cells + px_mc a ≤ R.cells ∧ slots + px_ms a ≤ R.slots := by omega
  have hgood := px_good_Ts (px_ws_Ts hk2)
  have hlen : (st.take b).reverse.length = b := by rw [List.length_reverse, List.length_take]; omega
  have hiw : (Cond.initialized (px_y a).cls).before args s = true := by rw [hh3]; exact hts _ hh2
  have hdd : (px_y a).cls ≠ "java/lang/invoke/MethodHandle" ∧ (px_y a).cls ≠ "java/lang/invoke/VarHandle" ∧ (parseMethodDescriptor (px_y a).desc).map (fun d => d.parameters.length) = some (px_np a) := by rw [hh3]; exact ⟨hh5, hh6, hh7⟩
  have hnestw : ¬ nest = 0 → va_Nw (.methodLinkNest (px_own k) idx (px_y a) px_host) s := fun h0 => by
    rw [if_neg h0] at hw1
    unfold px_mlink at hw1
    rw [if_neg h0, hcy] at hw1
    exact hE.1 _ hw1
  have hlinkw : nest = 0 → (Cond.methodLink (px_own k) idx (px_y a)) ∈ px_Ts := fun h0 => by
    rw [if_pos h0] at hw1
    unfold px_mlink at hw1
    rw [if_pos h0, hcy] at hw1
    exact hw1
  refine ⟨((st.take b).reverse.map (px_rl ad z)).toArray, ?_⟩
  rcases hkd with ⟨rfl, rfl⟩ | ⟨rfl, rfl⟩ | ⟨rfl, rfl⟩
  · -- invokevirtual
    have hs0 : px_sta a = 0 := by simpa using hsta
    have hi0 : px_ini a = 0 := by
      have : ¬ 0 < px_ini a := fun q => by have := hini.mpr q; omega
      omega
    rw [if_neg (by omega), if_pos hi0] at hw2
    have hrcv2 : px_rcv a h.1 ((st.take b).reverse.headD .null) = true := by
      rw [Bool.or_eq_true] at hrcv
      exact hrcv.resolve_left (by simp)
    obtain ⟨q, vs, hvs⟩ : ∃ (q : Addr) (vs : List Value), (st.take b).reverse = .ref q :: vs := by
      cases hz : (st.take b).reverse with
      | nil => rw [hz] at hrcv2; cases hrcv2
      | cons w vs =>
        rw [hz] at hrcv2
        cases w <;> first | exact ⟨_, _, rfl⟩ | cases hrcv2
    rw [hvs] at hrcv2 hPc hM hbli hlen ⊢
    have hsp := px_args_split hvs
    have hst : st.map (px_rl ad z) = (vs.map (px_rl ad z)).reverse ++ .ref (ad q) :: (st.drop b).map (px_rl ad z) := by
      conv => lhs; rw [hsp]
      rw [List.map_append, List.map_reverse]; rfl
    have hlen2 : (vs.map (px_rl ad z)).length = px_np a := by
      rw [List.length_map]; simp only [List.length_cons] at hlen; omega
    have hcell := px_recv (X := X) hk2 hrcv2 hfar hK hE hP hS
    by_cases h0 : nest = 0
    · have cw : CallW R s args (px_own k) (px_own a) idx (px_y a) (px_b a) (px_mx a) (px_rt a) (px_ws a) (px_rm a) (px_mc a) (px_ms a) (px_np a) :=
        cwV (Ts := px_Ts) (px_np a) hts (px_good_Ts (fun w hw => by
          rcases List.mem_append.mp hw with hw | hw
          · simp only [List.mem_cons, List.not_mem_nil, or_false] at hw
            rcases hw with rfl | rfl | rfl | rfl
            · exact hlinkw h0
            · exact hw2 _ (by simp)
            · exact hw2 _ (by simp [hh3])
            · exact hh2
          · exact px_ws_Ts hk2 w hw)) rfl rfl rfl ⟨hh3, hdd⟩ hR
      exact va_runV (As := vs.map (px_rl ad z)) (b := ad q) hS5 hM cw ⟨hbli, hcell, hPc⟩ rfl hlen2 hlocs hst hWr hd hf
    · have cw := va_cnB (own := px_own k) (host := px_host) (index := idx) (maxL := px_mx a) (y := px_y a) (bytes := px_b a) (ret := px_rt a) (R := R) (s := s) (args := args) (Ts := px_Ts) (ws := px_ws a) (rm := px_rm a) (mc := px_mc a) (ms := px_ms a) (px_np a) hts hgood rfl rfl rfl (hnestw h0) hiw hdd hR
      exact va_runVN (C := px_own a) (As := vs.map (px_rl ad z)) (b := ad q) hS5 hM ⟨cw, hts _ (hw2 _ (by simp)), by have := hts _ (hw2 _ (show Cond.selects (px_y a).cls (px_y a) (px_y a) ∈ _ by simp)); rw [hh3] at this; exact this⟩ ⟨hbli, hcell, hPc⟩ rfl hlen2 hlocs hst hWr hd hf
  · -- invokestatic
    have hs0 : px_sta a = 1 := by simpa using hsta
    rw [if_pos hs0] at hw2
    have hst : st.map (px_rl ad z) = ((st.take b).reverse.map (px_rl ad z)).reverse ++ (st.drop b).map (px_rl ad z) := by
      rw [← List.map_reverse, List.reverse_reverse, ← List.map_append, List.take_append_drop]
    have hlen2 : ((st.take b).reverse.map (px_rl ad z)).length = px_np a := by rw [List.length_map, hlen]; omega
    by_cases h0 : nest = 0
    · have cw := callB_of (own := px_own k) (index := idx) (maxL := px_mx a) (y := px_y a) (bytes := px_b a) (ret := px_rt a) (R := R) (s := s) (args := args) (Ts := px_Ts) (ws := px_ws a) (rm := px_rm a) (mc := px_mc a) (ms := px_ms a) (px_np a) hts hgood rfl rfl rfl hiw (hts _ (hlinkw h0)) hdd hR
      exact va_runS (As := (st.take b).reverse.map (px_rl ad z)) hS5 hM ⟨cw, hts _ (hw2 _ (by simp))⟩ ⟨hbli, hPc⟩ rfl hlen2 hlocs hst hWr hd hf
    · have cw := va_cnB (own := px_own k) (host := px_host) (index := idx) (maxL := px_mx a) (y := px_y a) (bytes := px_b a) (ret := px_rt a) (R := R) (s := s) (args := args) (Ts := px_Ts) (ws := px_ws a) (rm := px_rm a) (mc := px_mc a) (ms := px_ms a) (px_np a) hts hgood rfl rfl rfl (hnestw h0) hiw hdd hR
      exact va_runSN (As := (st.take b).reverse.map (px_rl ad z)) hS5 hM ⟨cw, hts _ (hw2 _ (by simp)), trivial⟩ ⟨hbli, hPc⟩ rfl hlen2 hlocs hst hWr hd hf
  · -- invokespecial
    have hs0 : px_sta a = 0 := by simpa using hsta
    have hi0 : 0 < px_ini a := hini.mp rfl
    rw [if_neg (by omega), if_neg (by omega)] at hw2
    have hrcv2 : px_rcv a h.1 ((st.take b).reverse.headD .null) = true := by
      rw [Bool.or_eq_true] at hrcv
      exact hrcv.resolve_left (by simp)
    obtain ⟨q, vs, hvs⟩ : ∃ (q : Addr) (vs : List Value), (st.take b).reverse = .ref q :: vs := by
      cases hz : (st.take b).reverse with
      | nil => rw [hz] at hrcv2; cases hrcv2
      | cons w vs =>
        rw [hz] at hrcv2
        cases w <;> first | exact ⟨_, _, rfl⟩ | cases hrcv2
    rw [hvs] at hrcv2 hPc hM hbli hlen ⊢
    have hsp := px_args_split hvs
    have hst : st.map (px_rl ad z) = (vs.map (px_rl ad z)).reverse ++ .ref (ad q) :: (st.drop b).map (px_rl ad z) := by
      conv => lhs; rw [hsp]
      rw [List.map_append, List.map_reverse]; rfl
    have hlen2 : (vs.map (px_rl ad z)).length = px_np a := by
      rw [List.length_map]; simp only [List.length_cons] at hlen; omega
    have hnm := hh8.mp hi0
    have hrt : px_rt a = none := px_ini_ret ha hi0
    by_cases h0 : nest = 0
    · have cw := callB_of (own := px_own k) (index := idx) (maxL := px_mx a) (y := px_y a) (bytes := px_b a) (ret := px_rt a) (R := R) (s := s) (args := args) (Ts := px_Ts) (ws := px_ws a) (rm := px_rm a) (mc := px_mc a) (ms := px_ms a) (px_np a) hts hgood rfl rfl rfl hiw (hts _ (hlinkw h0)) hdd hR
      rw [hrt] at cw
      exact va_runI (As := vs.map (px_rl ad z)) (b := ad q) hS5 hM ⟨cw, hnm, hts _ (hw2 _ (by simp))⟩ ⟨hbli, hPc⟩ rfl hlen2 hlocs hst hWr hd hf
    · have cw := va_cnB (own := px_own k) (host := px_host) (index := idx) (maxL := px_mx a) (y := px_y a) (bytes := px_b a) (ret := px_rt a) (R := R) (s := s) (args := args) (Ts := px_Ts) (ws := px_ws a) (rm := px_rm a) (mc := px_mc a) (ms := px_ms a) (px_np a) hts hgood rfl rfl rfl (hnestw h0) hiw hdd hR
      rw [hrt] at cw
      exact va_runIN (As := vs.map (px_rl ad z)) (b := ad q) hS5 hM ⟨cw, hnm, hts _ (hw2 _ (by simp))⟩ ⟨hbli, hPc⟩ rfl hlen2 hlocs hst hWr hd hf
end PXC
