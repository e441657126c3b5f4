def px_ok (k : Nat) : Prop := ∀ e ∈ px_blk k, px_fine k e.2 ∧ ∃ x r, e.2 = x :: r ∧ x.1 = e.1
def px_isret (k : Nat) (i : Instr) (v : Option Value) : Prop :=
  (i = .ireturn ∧ ∃ y, v = some (.int y) ∧ px_rti (px_rt k) y = true) ∨ (i = .lreturn ∧ (∃ y, v = some (.long y)) ∧ px_rt k = some .long) ∨ (i = .areturn ∧ (∃ q, v = some (.ref q)) ∧ px_rta (px_rt k) = true) ∨ (i = .return_ ∧ v = none ∧ px_rt k = none)
/-- what is known where a method returns -/
def px_Zf (D : va_G) (tc : Nat → ClassId) (A : Nat → Prop) (ad0 : Nat → Nat) (n0 : Nat) (R : Room) (s : State) (ad : Nat → Nat) (h : px_H) (cells slots : Nat) (H : Heap) (locs : List Loc) : Prop :=
  va_P D vwCl (px_w tc ad h) H ∧ va_D A (px_w tc ad h) ∧ va_S A s.heap H locs ∧ cells ≤ R.cells ∧ slots ≤ R.slots ∧ n0 ≤ h.1.length ∧ ∀ i, ¬ (n0 ≤ i ∧ i < h.1.length) → ad i = ad0 i
def px_Sound (l : Launch) (X : px_X) (N : Nat) : Prop :=
  ∀ (k : Nat) (rem : Nat × Nat) (suf : List px_I) (L st : List Value) (h : px_H) (v : Option Value) (h' : px_H), px_run X N k rem suf L st h = some (v, h') → k ≤ px_law → px_fine k suf →
  ∀ {p : Program} {e : Env} {R : Room} {s : State} {m : MethodId} {args : Array Value} {below : List Frame} {meth : Method} {c : Code} {Q : State → Prop} {D : va_G} {tc : Nat → ClassId} {z : Value} {A : Nat → Prop} {ad0 : Nat → Nat} {n0 : Nat} {ad : Nat → Nat} {ls : Array Slot} {H : Heap} {locs : List Loc} {cells slots pc : Nat},
    px_Cx D tc X z A ad0 k p R s m args meth c → (∀ i, 1000 ≤ i → ad i = ad0 i) → px_Zr D tc z A ad0 n0 k R s ad h ls L cells slots rem H locs → (∀ x ∈ suf.head?, x.1 = pc) →
    (∀ (ad' : Nat → Nat) (pc' : Nat) (i : Instr) (ls' : Array Slot) (H' : Heap) (locs' : List Loc) (cells' slots' : Nat), decode (px_b k) pc' = .ok (i, 1) → px_isret k i v → px_Zf D tc A ad0 n0 R s ad' h' cells' slots' H' locs' →
      W p l e R s m args below meth c H' locs' cells' slots' Q (F0 m pc' ls' ((v.map (px_rl ad' z)).toList))) →
    W p l e R s m args below meth c H locs cells slots Q (F0 m pc ls (st.map (px_rl ad z)))
theorem px_Zr.fin {D : va_G} {tc : Nat → ClassId} {z : Value} {A : Nat → Prop} {ad0 ad : Nat → Nat} {n0 k : Nat} {R : Room} {s : State} {h : px_H} {ls : Array Slot} {L : List Value} {cells slots : Nat} {rem : Nat × Nat} {H : Heap} {locs : List Loc} (Z : px_Zr D tc z A ad0 n0 k R s ad h ls L cells slots rem H locs) : px_Zf D tc A ad0 n0 R s ad h cells slots H locs :=
  ⟨Z.1, Z.2.1, Z.2.2.1, by have := Z.2.2.2.2.1; omega, by have := Z.2.2.2.2.2.1; omega, Z.2.2.2.2.2.2.1, Z.2.2.2.2.2.2.2⟩
/-- a method's contract out of a run of the pure machine -/
theorem px_met {l : Launch} {X : px_X} {N : Nat} (hS : px_Sound l X N) (hok : ∀ k, k ≤ px_law → px_ok k) {k : Nat} (hk : k < px_law ∧ (k < 248 ∨ 250 < k)) {vs : List Value} {h h' : px_H} {v : Option Value} (hlen : (px_entl vs).length ≤ px_mx k)
    (hrun : px_run X N k (px_mc k, px_ms k) (px_ct k) (px_ent vs (px_mx k)) [] h = some (v, h')) (D : va_G) (tc : Nat → ClassId) (z : Value) (ad : Nat → Nat) (sz : Nat) :
    Met l (px_y k) (px_ws k) (px_rm k) (px_Pc D tc X z ad h vs sz) (px_Qc D tc z ad h sz v h') (px_mc k) (px_ms k) (va_A (px_w tc ad h) sz) := by
  have hh := px_hd_all hk
  obtain ⟨hh1, hh2, hh3, hh4, hh5, hh6, hh7, hh8, hh9, hh10⟩ := hh
  refine Met.ofW (cc := px_b k) (maxL := px_mx k) (ret := px_rt k) (by rw [hh3]; exact hh4) rfl ?_
  intro p e s m args below meth c s₁ B hml hv
  obtain ⟨rfl, hsz, hP, hK, hD0, hE⟩ := hv
  have hx := B.exec
  have hb := B.bytes
  have hr := B.returns
  have hts := atoms_spec (ws := px_ws k) B.pre
  have hown : s.vm.findClass (px_own k) = some m.cls := by rw [← hh3]; exact findClass_of_methodNamed B.named
  have hlocks := B.notSynchronized
  have hname := (name_of_methodNamed B.named B.method).1
  subst hsz
  have hD := hD0.self (sz := s.heap.size)
  have hA : ∀ q : Nat, s.heap.size ≤ q → va_A (px_w tc ad h) s.heap.size q := fun q h => Or.inr h
  have hcx : px_Cx D tc X z (va_A (px_w tc ad h) s.heap.size) ad k p (headSpec (px_ws k) (px_rm k)).room s m (vs.map (px_rl ad z)).toArray meth c :=
    ⟨hx, hb, hml, hown, fun w hw => hts w (List.mem_cons_of_mem _ hw), hK, hA, hE, fun hi => ⟨hname.trans (hh8.mp hi), hh9.resolve_left (by omega)⟩, Nat.le_refl _, Nat.le_refl _⟩
  rw [lg_entry_eq]
  obtain ⟨x0, r0, hct, hx0⟩ : ∃ x r, px_ct k = x :: r ∧ x.1 = 0 := by
    unfold px_ct px_to
    cases hlk : (px_blk k).lookup 0 with
    | none =>
      exfalso
      have : px_ct k = [] := by unfold px_ct px_to; rw [hlk]; rfl
      rw [this] at hrun
      cases N <;> simp [px_run] at hrun
    | some w =>
      obtain ⟨l1, l2, hl, -⟩ := List.lookup_eq_some_iff.mp hlk
      exact (hok k (Nat.le_of_lt hk.1) (0, w) (by rw [hl]; simp)).2
  have hfine : px_fine k (px_ct k) := by
    unfold px_ct px_to at hct ⊢
    cases hlk : (px_blk k).lookup 0 with
    | none => rw [hlk] at hct; cases hct
    | some w =>
      obtain ⟨l1, l2, hl, -⟩ := List.lookup_eq_some_iff.mp hlk
      exact (hok k (Nat.le_of_lt hk.1) (0, w) (by rw [hl]; simp)).1
  have hz := hE.2.2.1
  refine hS k _ _ _ _ _ _ _ hrun (Nat.le_of_lt hk.1) hfine hcx (fun i _ => rfl) (n0 := h.1.length) (pc := 0) ⟨hP, hD, va_S.rf, px_Lr_entry hz vs hlen, by simp only [Nat.zero_add]; exact Nat.le_refl _, by simp only [Nat.zero_add]; exact Nat.le_refl _, Nat.le_refl _, fun i _ => rfl⟩ (fun x hxx => by rw [hct] at hxx; cases hxx; exact hx0) ?_
  intro ad' pc' i ls' H' locs' cells' slots' hd hret Z
  obtain ⟨zP, zD, zS, zc, zs, zn, zag⟩ := Z
  have hQ : ∀ t : State, t.heap = H' → px_Qc D tc z ad h s.heap.size v h' (vs.map (px_rl ad z)).toArray s (.returned (v.map (px_rl ad' z))) t := fun t ht =>
    ⟨⟨⟨ad', zag, rfl, by rw [ht]; exact zP, zD⟩, zn⟩, zS.F ht⟩
  refine W.widen (k := px_mc k) (n := px_ms k) zc zs ?_
  rcases hret with ⟨rfl, y, rfl, hy⟩ | ⟨rfl, ⟨y, rfl⟩, hy⟩ | ⟨rfl, ⟨q, rfl⟩, hy⟩ | ⟨rfl, rfl, hy⟩
  · cases hrt : px_rt k with
    | none => rw [hrt] at hy; cases hy
    | some ty =>
      rw [hrt] at hy hr
      refine W.zret hx hb hr ?_ (fun t ht _ => hQ t ht) zS.2.2 hd
      cases ty <;> first | rfl | exact congrArg Value.int (of_decide_eq_true hy) | exact of_decide_eq_true hy
  · exact W.lret hx hb (hr.trans hy) (fun t ht _ => hQ t ht) zS.2.2 hd
  · cases hrt : px_rt k with
    | none => rw [hrt] at hy; cases hy
    | some ty =>
      rw [hrt] at hy hr
      refine W.aret hx hb hr ?_ (Or.inr ⟨_, rfl⟩) (fun t ht _ => hQ t ht) zS.2.2 hd
      cases ty <;> first | exact Or.inl ⟨_, rfl⟩ | exact Or.inr ⟨_, rfl⟩ | cases hy
  · exact W.vret hx hb (hr.trans hy) (fun t ht _ => hQ t ht) zS.2.2 hd
