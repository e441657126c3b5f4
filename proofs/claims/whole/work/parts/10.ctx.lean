/-! WHAT LIES OUTSIDE: strings, static arrays, the script; and what holds all through a method. -/
def px_tys (tc : Nat → ClassId) : List (ClassId × FieldType) := [(tc 0, .int), (tc 1, .boolean), (tc 2, .long), (tc 3, .object "LightAlong$Shelf")]
def px_Ex (ad : Nat → Nat) (z : Value) (X : px_X) (A : Nat → Prop) (U : State) (H : Heap) : Prop :=
  (∀ w ∈ px_Tn, va_Nw w U) ∧ va_AO "LightAlong$Shelf" U ∧ z.category = 1 ∧ vk_S 11 px_wl px_wb (fun i => ad (1000 + i)) (fun i => ad (1100 + i)) A U H ∧
  (∀ i, i < 11 → vk_R "LightAlong" (350 + 2 * i) (px_tx i) (ad (1000 + i)) U) ∧
  (∀ (q n : Nat) (f : Nat → Int32), px_xa X q = some (n, f) → va_T .int (ad q) n (fun j => .int (f j)) A U H) ∧
  (∀ a, a < 4 → va_Z (px_sn a).1 (px_sn a).2.1 (px_sn a).2.2 (.ref (ad (1200 + a))) A U H) ∧
  va_Z (px_sn 4).1 (px_sn 4).2.1 (px_sn 4).2.2 (.int 1) A U H ∧ va_Z (px_sn 5).1 (px_sn 5).2.1 (px_sn 5).2.2 z A U H
theorem px_Tn_kind {w : Cond} (h : w ∈ px_Tn) : px_isN w = true := (List.mem_filter.mp h).2
theorem px_Nw_warm {w : Cond} (hw : px_isN w = true) {s U : State} (hW : s.WarmedH U.vm) (h : va_Nw w s) : va_Nw w U := by
  unfold px_isN at hw
  split at hw
  · exact va_Nw.warmF hW h
  · exact va_Nw.warmM hW h
  · cases hw
theorem px_Nw_same {w : Cond} (hw : px_isN w = true) {s U : State} (hv : s.vm = U.vm) (h : va_Nw w s) : va_Nw w U := by
  unfold px_isN at hw
  split at hw
  · exact va_Nw.same rfl hv h
  · exact va_Nw.same rfl hv h
  · cases hw
theorem px_Nw_use {w : Cond} (hw : px_isN w = true) {A : Array Value} {U : State} (h : va_Nw w U) : w.before A U = true := by
  unfold px_isN at hw
  split at hw
  · exact va_Nw.use rfl h
  · exact va_Nw.use rfl h
  · cases hw
/-- the outside at a later state and heap, for fewer cells that may change -/
theorem px_Ex.move {ad : Nat → Nat} {z : Value} {X : px_X} {A B : Nat → Prop} {s U : State} {H H1 : Heap} (h : px_Ex ad z X A s H) (hW : s.WarmedH U.vm) (hq : ∀ a : Nat, a < H.size → ¬ A a → H1[a]? = H[a]?) (hAB : ∀ q, B q → A q) : px_Ex ad z X B U H1 := by
  obtain ⟨h1, h2, h3, h4, h5, h6, h7, h8, h9⟩ := h
  exact ⟨fun w hw => px_Nw_warm (px_Tn_kind hw) hW (h1 w hw), h2.moved hW.alike, h3, ((h4.moved hW.alike).kept hq).narrow hAB, fun i hi => (h5 i hi).warm hW,
    fun q n f hx => (((h6 q n f hx).moved hW.alike).kept hq).narrow hAB, fun a ha => (((h7 a ha).moved hW.alike).kept hq).narrow hAB, ((h8.moved hW.alike).kept hq).narrow hAB, ((h9.moved hW.alike).kept hq).narrow hAB⟩
theorem px_Ex.same {ad : Nat → Nat} {z : Value} {X : px_X} {A : Nat → Prop} {s U : State} {H : Heap} (h : px_Ex ad z X A s H) (hv : s.vm = U.vm) : px_Ex ad z X A U H := by
  have hal : s.vm.Alike U.vm := by rw [hv]; exact Vm.Alike.refl U.vm
  obtain ⟨h1, h2, h3, h4, h5, h6, h7, h8, h9⟩ := h
  exact ⟨fun w hw => px_Nw_same (px_Tn_kind hw) hv (h1 w hw), h2.moved hal, h3, h4.moved hal, fun i hi => (h5 i hi).same hv.symm,
    fun q n f hx => (h6 q n f hx).moved hal, fun a ha => (h7 a ha).moved hal, h8.moved hal, h9.moved hal⟩
theorem px_xa_far {X : px_X} {q n : Nat} {f : Nat → Int32} (h : px_xa X q = some (n, f)) : 1000 ≤ q := by
  unfold px_xa at h
  split at h
  · omega
  · split at h
    · cases h
    · omega
theorem px_Ex.ad {ad ad' : Nat → Nat} {z : Value} {X : px_X} {A : Nat → Prop} {s : State} {H : Heap} (h : px_Ex ad z X A s H) (ha : ∀ i, 1000 ≤ i → ad' i = ad i) : px_Ex ad' z X A s H := by
  obtain ⟨h1, h2, h3, h4, h5, h6, h7, h8, h9⟩ := h
  refine ⟨h1, h2, h3, ?_, fun i hi => by rw [ha _ (by omega)]; exact h5 i hi, fun q n f hx => by rw [ha _ (px_xa_far hx)]; exact h6 q n f hx, fun a hl => by rw [ha _ (by omega)]; exact h7 a hl, h8, h9⟩
  rw [show (fun i => ad' (1000 + i)) = (fun i => ad (1000 + i)) from funext fun i => ha _ (by omega), show (fun i => ad' (1100 + i)) = (fun i => ad (1100 + i)) from funext fun i => ha _ (by omega)]
  exact h4
/-- what holds all through a method's run -/
def px_Cx (D : va_G) (tc : Nat → ClassId) (X : px_X) (z : Value) (A : Nat → Prop) (ad : Nat → Nat) (k : Nat) (p : Program) (R : Room) (s : State) (m : MethodId) (args : Array Value) (meth : Method) (c : Code) : Prop :=
  p.tables.exec = Jvm.exec ∧ c.code = px_b k ∧ c.maxLocals = px_mx k ∧ s.vm.findClass (px_own k) = some m.cls ∧ (∀ w ∈ px_Ts, w.before args s = true) ∧ va_K D vwCl (px_tys tc) s ∧ (∀ q : Nat, s.heap.size ≤ q → A q) ∧ px_Ex ad z X A s s.heap ∧ (0 < px_ini k → meth.name = "<init>" ∧ px_ini k = px_cn k + 1) ∧ px_fr k ≤ R.frames ∧ px_lo k ≤ R.locals
/-- what holds at each point of it -/
def px_Zr (D : va_G) (tc : Nat → ClassId) (z : Value) (A : Nat → Prop) (ad0 : Nat → Nat) (n0 k : Nat) (R : Room) (s : State) (ad : Nat → Nat) (h : px_H) (ls : Array Slot) (L : List Value) (cells slots : Nat) (rem : Nat × Nat) (H : Heap) (locs : List Loc) : Prop :=
  va_P D vwCl (px_w tc ad h) H ∧ va_D A (px_w tc ad h) ∧ va_S A s.heap H locs ∧ px_Lr (px_rl ad z) ls (px_mx k) L ∧ cells + rem.1 ≤ R.cells ∧ slots + rem.2 ≤ R.slots ∧ n0 ≤ h.1.length ∧ ∀ i, ¬ (n0 ≤ i ∧ i < h.1.length) → ad i = ad0 i
theorem px_cl_at {ci : Nat} (h : ci < 9) : vwCl[ci]? = some (px_cl ci, px_T ci, px_nf ci) := by
  rcases (show ci = 0 ∨ ci = 1 ∨ ci = 2 ∨ ci = 3 ∨ ci = 4 ∨ ci = 5 ∨ ci = 6 ∨ ci = 7 ∨ ci = 8 by omega) with rfl | rfl | rfl | rfl | rfl | rfl | rfl | rfl | rfl <;> rfl
set_option maxRecDepth 100000 in
theorem px_ws_in {ci : Nat} (h : ci < 9) : ∀ w ∈ u_ws (px_cl ci) (px_T ci) (px_nf ci), w ∈ px_Ts := by
  have key : ∀ w ∈ u_ws (px_cl ci) (px_T ci) (px_nf ci), w ∈ lw_tbl ∧ goodWord w = true := by
    rcases (show ci = 0 ∨ ci = 1 ∨ ci = 2 ∨ ci = 3 ∨ ci = 4 ∨ ci = 5 ∨ ci = 6 ∨ ci = 7 ∨ ci = 8 by omega) with rfl | rfl | rfl | rfl | rfl | rfl | rfl | rfl | rfl <;> decide +kernel
  exact fun w hw => List.mem_filter.mpr (key w hw)
theorem px_ty_ok {ci : Nat} (h : ci < 9) : ∀ k, k < px_nf ci → parseFieldDescriptor (px_T ci k).2.2.1 = some (px_ty ci k) := by
  rcases (show ci = 0 ∨ ci = 1 ∨ ci = 2 ∨ ci = 3 ∨ ci = 4 ∨ ci = 5 ∨ ci = 6 ∨ ci = 7 ∨ ci = 8 by omega) with rfl | rfl | rfl | rfl | rfl | rfl | rfl | rfl | rfl <;> decide +kernel
theorem px_nm_ok {ci : Nat} (h : ci < 9) : ∀ a, a < px_nf ci → ∀ b, b < px_nf ci → a ≠ b → (px_T ci a).2.1 ≠ (px_T ci b).2.1 := by
  rcases (show ci = 0 ∨ ci = 1 ∨ ci = 2 ∨ ci = 3 ∨ ci = 4 ∨ ci = 5 ∨ ci = 6 ∨ ci = 7 ∨ ci = 8 by omega) with rfl | rfl | rfl | rfl | rfl | rfl | rfl | rfl | rfl <;> decide +kernel
/-- kinds, finals, declarers of the fields -/
theorem px_fd_ok {ci : Nat} (h : ci < 9) : ∀ k, k < px_nf ci → (px_T ci k).1 = px_cl ci ∧ (px_T ci k).2.2.2 = px_fin ci k ∧ (px_kind ci k = 0 → px_ty ci k = .int) ∧ (px_kind ci k = 1 → px_ty ci k = .boolean) ∧ (¬ px_kind ci k < 2 → px_kind ci k = 2 ∧ fits (px_ty ci k) (.ref 0) = true ∧ narrow (px_ty ci k) .null = .null ∧ defaultValue (px_ty ci k) = .null) := by
  rcases (show ci = 0 ∨ ci = 1 ∨ ci = 2 ∨ ci = 3 ∨ ci = 4 ∨ ci = 5 ∨ ci = 6 ∨ ci = 7 ∨ ci = 8 by omega) with rfl | rfl | rfl | rfl | rfl | rfl | rfl | rfl | rfl <;> decide +kernel
theorem px_fits_ref {t : FieldType} (h : fits t (.ref 0) = true) (a : Nat) : fits t (.ref a) = true := by
  cases t <;> first | rfl | cases h
theorem px_narrow_ref (t : FieldType) (a : Nat) : narrow t (.ref a) = .ref a := by
  cases t <;> rfl
