/-! THE PURE MACHINE IS THE MACHINE: relations between the two. -/
def px_rl (ad : Nat → Nat) (z : Value) (v : Value) : Value := match v with
  | .ref k => .ref (ad k)
  | .retAddr _ => z
  | v => v
theorem px_rl_cat {ad : Nat → Nat} {z : Value} (hz : z.category = 1) (v : Value) : (px_rl ad z v).category = v.category := by
  cases v <;> first | rfl | exact hz
theorem px_get_some {L : List Value} {a : Nat} {v : Value} (h : px_get L a = v) (hv : v ≠ .null) : L[a]? = some v := by
  unfold px_get at h
  rw [List.getD_eq_getElem?_getD] at h
  cases hq : L[a]? with
  | none => rw [hq] at h; exact absurd h.symm hv
  | some w => rw [hq] at h; exact congrArg some h
def px_Lr (f : Value → Value) (ls : Array Slot) (nL : Nat) (L : List Value) : Prop := ls.size = nL ∧ lv_wf ls ∧ L.length = nL ∧ ∀ (i : Nat) (v : Value), L[i]? = some v → v ≠ .null → ls[i]? = some (.val (f v))
def px_lvs (f : Value → Value) (L : List Value) : List (Nat × Value) := (L.zipIdx.filter fun q => !(decide (q.1 = .null))).map fun q => (q.2, f q.1)
theorem px_lvs_mem {f : Value → Value} {L : List Value} {q : Nat × Value} : q ∈ px_lvs f L ↔ ∃ v, L[q.1]? = some v ∧ v ≠ .null ∧ f v = q.2 := by
  unfold px_lvs
  rw [List.mem_map]
  constructor
  · rintro ⟨⟨v, i⟩, h, rfl⟩
    obtain ⟨h1, h2⟩ := List.mem_filter.mp h
    exact ⟨v, List.mem_zipIdx_iff_getElem?.mp h1, by simpa using h2, rfl⟩
  · rintro ⟨v, h1, h2, h3⟩
    exact ⟨(v, q.1), List.mem_filter.mpr ⟨List.mem_zipIdx_iff_getElem?.mpr h1, by simpa using h2⟩, by rw [h3]⟩
theorem px_Lr.has {f : Value → Value} {ls : Array Slot} {nL : Nat} {L : List Value} (h : px_Lr f ls nL L) : lv_has ls nL (px_lvs f L) := ⟨h.1, h.2.1, fun q hq => by
  obtain ⟨v, h1, h2, h3⟩ := px_lvs_mem.mp hq
  rw [← h3]
  exact h.2.2.2 _ _ h1 h2⟩
theorem px_Lr.at {f : Value → Value} {ls : Array Slot} {nL : Nat} {L : List Value} (h : px_Lr f ls nL L) {a : Nat} {v : Value} (hg : px_get L a = v) (hv : v ≠ .null) : ls[a]? = some (.val (f v)) := h.2.2.2 a v (px_get_some hg hv) hv
theorem px_Lr.lt {f : Value → Value} {ls : Array Slot} {nL : Nat} {L : List Value} (h : px_Lr f ls nL L) {a : Nat} {v : Value} (hg : px_get L a = v) (hv : v ≠ .null) : a < nL := by
  have := (List.getElem?_eq_some_iff.mp (px_get_some hg hv)).1
  rw [← h.2.2.1]; exact this
theorem px_set_len (L : List Value) (a : Nat) (v : Value) : (px_set L a v).length = L.length := by
  unfold px_set
  split
  · simp
  · split <;> simp
theorem px_set_get {L : List Value} {i : Nat} {v : Value} {j : Nat} {w : Value} (h : (px_set L i v)[j]? = some w) : (j = i → w = v) ∧ (j ≠ i → w ≠ .null → L[j]? = some w ∧ ¬ (j + 1 = i ∧ w.category = 2)) := by
  unfold px_set at h
  split at h
  · rw [List.getElem?_set] at h
    refine ⟨fun e => ?_, fun ne hw => ?_⟩
    · subst e
      rw [if_pos rfl] at h
      split at h
      · exact (Option.some.inj h).symm
      · cases h
    · rw [if_neg (fun q => ne q.symm)] at h
      exact ⟨h, fun q => by omega⟩
  · rename_i a
    split at h
    · rename_i hc
      rw [List.getElem?_set] at h
      refine ⟨fun e => ?_, fun ne hw => ?_⟩
      · subst e
        rw [if_pos rfl] at h
        split at h
        · exact (Option.some.inj h).symm
        · cases h
      · rw [if_neg (fun q => ne q.symm), List.getElem?_set] at h
        split at h
        · split at h
          · exact absurd (Option.some.inj h).symm hw
          · cases h
        · rename_i ha
          exact ⟨h, fun q => ha (by omega)⟩
    · rename_i hc
      rw [List.getElem?_set] at h
      refine ⟨fun e => ?_, fun ne hw => ?_⟩
      · subst e
        rw [if_pos rfl] at h
        split at h
        · exact (Option.some.inj h).symm
        · cases h
      · rw [if_neg (fun q => ne q.symm)] at h
        refine ⟨h, fun q => hc ?_⟩
        have : j = a := by omega
        subst this
        rw [List.getD_eq_getElem?_getD, h]
        exact q.2
theorem px_Lr.set {f : Value → Value} {ls ls' : Array Slot} {nL : Nat} {L : List Value} {i : Nat} {v w : Value} (h : px_Lr f ls nL L) (hc : ∀ w, (f w).category = w.category) (hw : f v = w) (h' : lv_has ls' nL ((i, w) :: (px_lvs f L).filter (fun q => !(q.1 == i) && !(q.1 + 1 == i && q.2.category == 2)))) : px_Lr f ls' nL (px_set L i v) := by
  subst hw
  refine ⟨h'.1, h'.2.1, (px_set_len L i v).trans h.2.2.1, fun j w hj hw => ?_⟩
  have hg := px_set_get hj
  by_cases hji : j = i
  · have e := hg.1 hji
    subst e; subst hji
    exact h'.2.2 (j, f w) List.mem_cons_self
  · obtain ⟨h1, h2⟩ := hg.2 hji hw
    refine h'.2.2 (j, f w) (List.mem_cons_of_mem _ (List.mem_filter.mpr ⟨px_lvs_mem.mpr ⟨w, h1, hw, rfl⟩, ?_⟩))
    have h3 : (j == i) = false := by simpa using hji
    have h4 : (j + 1 == i && w.category == 2) = false := by
      by_cases a : j + 1 = i
      · have : ¬ w.category = 2 := fun q => h2 ⟨a, q⟩
        simp [this]
      · simp [a]
    simp only [hc, h3, h4]
    rfl
theorem px_Lr.set2 {f : Value → Value} {ls ls' : Array Slot} {nL : Nat} {L : List Value} {i : Nat} {v w : Value} (h : px_Lr f ls nL L) (hc : ∀ w, (f w).category = w.category) (hw : f v = w) (h' : lv_has ls' nL ((i, w) :: (px_lvs f L).filter (fun q => !(q.1 == i) && (!(q.1 == i + 1) && !(q.1 + 1 == i && q.2.category == 2))))) : px_Lr f ls' nL (px_set2 L i v) := by
  subst hw
  refine ⟨h'.1, h'.2.1, ?_, fun j w hj hw => ?_⟩
  · unfold px_set2
    rw [List.length_set, px_set_len]; exact h.2.2.1
  · unfold px_set2 at hj
    rw [List.getElem?_set] at hj
    by_cases hj2 : i + 1 = j
    · rw [if_pos hj2] at hj
      split at hj
      · exact absurd (Option.some.inj hj).symm hw
      · cases hj
    · rw [if_neg hj2] at hj
      have hg := px_set_get hj
      by_cases hji : j = i
      · have e := hg.1 hji
        subst e; subst hji
        exact h'.2.2 (j, f w) List.mem_cons_self
      · obtain ⟨h1, h2⟩ := hg.2 hji hw
        refine h'.2.2 (j, f w) (List.mem_cons_of_mem _ (List.mem_filter.mpr ⟨px_lvs_mem.mpr ⟨w, h1, hw, rfl⟩, ?_⟩))
        have h3 : (j == i) = false := by simpa using hji
        have h5 : (j == i + 1) = false := by simpa using (fun q => hj2 q.symm : ¬ j = i + 1)
        have h4 : (j + 1 == i && w.category == 2) = false := by
          by_cases a : j + 1 = i
          · have : ¬ w.category = 2 := fun q => h2 ⟨a, q⟩
            simp [this]
          · simp [a]
        simp only [hc, h3, h4, h5]
        rfl
theorem px_Lr.cong {f g : Value → Value} {ls : Array Slot} {nL : Nat} {L : List Value} (h : px_Lr f ls nL L) (hfg : ∀ v ∈ L, f v = g v) : px_Lr g ls nL L :=
  ⟨h.1, h.2.1, h.2.2.1, fun i v h1 h2 => by rw [← hfg v (List.mem_of_getElem? h1)]; exact h.2.2.2 i v h1 h2⟩
/-- the cells -/
def px_fv (ad : Nat → Nat) (t : Nat) (rs : List (Option Nat)) (dk : Nat → Int32) (j : Nat) : Value := if px_kind t j < 2 then .int (dk j) else (match rs.getD j none with | some r => .ref (ad r) | none => .null)
def px_cell (tc : Nat → ClassId) (ad : Nat → Nat) (s : px_S) (dk : Nat → Int32) (ek : Nat → Int64) : va_E :=
  if s.1 < 100 then .inr (s.1, (List.range s.2.1).map (px_fv ad s.1 s.2.2 dk))
  else if s.1 = 100 then .inl (tc 0, s.2.1, .inl dk)
  else if s.1 = 101 then .inl (tc 1, s.2.1, .inl dk)
  else if s.1 = 102 then .inl (tc 2, s.2.1, .inr (.inl ek))
  else .inl (tc 3, s.2.1, .inr (.inr (.inr (.inr fun j => (s.2.2.getD j none).map ad))))
def px_w (tc : Nat → ClassId) (ad : Nat → Nat) (h : px_H) : va_W := h.1.zipIdx.map fun q => (ad q.2, px_cell tc ad q.1 (h.2.1 q.2) (h.2.2 q.2))
theorem px_w_get (tc : Nat → ClassId) (ad : Nat → Nat) (h : px_H) (k : Nat) : (px_w tc ad h)[k]? = (h.1[k]?).map fun s => (ad k, px_cell tc ad s (h.2.1 k) (h.2.2 k)) := by
  simp only [px_w, List.getElem?_map, List.getElem?_zipIdx, Option.map_map]
  cases h.1[k]? <;> simp
theorem px_w_at {tc : Nat → ClassId} {ad : Nat → Nat} {h : px_H} {k : Nat} {s : px_S} (hk : h.1[k]? = some s) : (px_w tc ad h)[k]? = some (ad k, px_cell tc ad s (h.2.1 k) (h.2.2 k)) := by
  rw [px_w_get, hk]; rfl
theorem px_w_set {tc : Nat → ClassId} {ad : Nat → Nat} {h h' : px_H} {k : Nat} {s s' : px_S} (hk : h.1[k]? = some s) (hG : h'.1 = h.1.set k s') (hd : ∀ j, j ≠ k → h'.2.1 j = h.2.1 j) (he : ∀ j, j ≠ k → h'.2.2 j = h.2.2 j) {e : va_E} (hc : px_cell tc ad s' (h'.2.1 k) (h'.2.2 k) = e) : (px_w tc ad h).set k (ad k, e) = px_w tc ad h' := by
  subst hc
  have hl := (List.getElem?_eq_some_iff.mp hk).1
  apply List.ext_getElem?
  intro j
  rw [px_w_get, hG, List.getElem?_set, List.getElem?_set, px_w_get]
  by_cases hj : k = j
  · subst hj
    rw [if_pos rfl, if_pos rfl]
    have : (px_w tc ad h).length = h.1.length := by simp [px_w]
    rw [this, if_pos hl, if_pos hl]; rfl
  · rw [if_neg hj, if_neg hj, hd j (fun q => hj q.symm), he j (fun q => hj q.symm)]
theorem px_set_same {α : Type} {l : List α} {k : Nat} {x : α} (h : l[k]? = some x) : l = l.set k x := by
  apply List.ext_getElem?
  intro j
  rw [List.getElem?_set]
  by_cases hj : k = j
  · subst hj; rw [if_pos rfl, if_pos (List.getElem?_eq_some_iff.mp h).1]; exact h
  · rw [if_neg hj]
/-- a new cell at the end -/
theorem px_w_push {tc : Nat → ClassId} {ad : Nat → Nat} {h h' : px_H} {s' : px_S} {q : Nat} (hG : h'.1 = h.1 ++ [s']) (hd : ∀ j, j < h.1.length → h'.2.1 j = h.2.1 j) (he : ∀ j, j < h.1.length → h'.2.2 j = h.2.2 j) (hok : h.1.all (px_rok h.1.length) = true)
    {e : va_E} (hc : px_cell tc (fun i => if i = h.1.length then q else ad i) s' (h'.2.1 h.1.length) (h'.2.2 h.1.length) = e) : px_w tc ad h ++ [(q, e)] = px_w tc (fun i => if i = h.1.length then q else ad i) h' := by
  subst hc
  apply List.ext_getElem?
  intro j
  have hlen : (px_w tc ad h).length = h.1.length := by simp [px_w]
  rw [px_w_get, hG]
  by_cases hj : j < h.1.length
  · rw [List.getElem?_append_left (by omega), List.getElem?_append_left hj, px_w_get, hd j hj, he j hj]
    cases hs : h.1[j]? with
    | none => rfl
    | some s =>
      have hn : ¬ j = h.1.length := by omega
      have hr := List.all_eq_true.mp hok s (List.mem_of_getElem? hs)
      have hr2 : ∀ (i : Nat) (r : Nat), s.2.2.getD i none = some r → r < h.1.length := by
        intro i r hi
        rw [List.getD_eq_getElem?_getD] at hi
        cases hx : s.2.2[i]? with
        | none => rw [hx] at hi; cases hi
        | some y =>
          rw [hx] at hi
          have hy : y = some r := hi
          subst hy
          have := List.all_eq_true.mp hr (some r) (List.mem_of_getElem? hx)
          simpa using this
      have key : px_cell tc ad s (h.2.1 j) (h.2.2 j) = px_cell tc (fun i => if i = h.1.length then q else ad i) s (h.2.1 j) (h.2.2 j) := by
        unfold px_cell
        have e1 : ∀ i, px_fv ad s.1 s.2.2 (h.2.1 j) i = px_fv (fun i => if i = h.1.length then q else ad i) s.1 s.2.2 (h.2.1 j) i := by
          intro i
          unfold px_fv
          cases hx : s.2.2.getD i none with
          | none => rfl
          | some r =>
            have := hr2 i r hx
            have h2 : ¬ r = h.1.length := by omega
            simp only [if_neg h2]
        have e2 : (fun j => (s.2.2.getD j none).map ad) = (fun j => (s.2.2.getD j none).map (fun i => if i = h.1.length then q else ad i)) := by
          funext i
          cases hx : s.2.2.getD i none with
          | none => rfl
          | some r =>
            have := hr2 i r hx
            have h2 : ¬ r = h.1.length := by omega
            simp only [Option.map_some, if_neg h2]
        rw [show px_fv ad s.1 s.2.2 (h.2.1 j) = px_fv (fun i => if i = h.1.length then q else ad i) s.1 s.2.2 (h.2.1 j) from funext e1, e2]
      simp only [Option.map_some, if_neg hn, key]
  · rw [List.getElem?_append_right (by omega), List.getElem?_append_right (by omega), hlen]
    by_cases hj2 : j = h.1.length
    · subst hj2
      rw [Nat.sub_self]
      simp
    · have : 1 ≤ j - h.1.length := by omega
      rw [List.getElem?_eq_none (by simpa using this), List.getElem?_eq_none (by simpa using this)]
      rfl
