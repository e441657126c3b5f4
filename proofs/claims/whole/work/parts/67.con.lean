/-! THE CONSTRUCTORS ask nothing of the script. -/
def nc_ : List Nat := [0, 8, 19, 31, 45, 72, 79, 86, 148]
def nx_ (r : px_I) : Bool := match r.2.1 with
  | .arraylength => false
  | .iaload => false
  | .invokevirtual _ => false
  | .invokestatic _ => false
  | .invokespecial _ => decide (r.2.2.2.1 = 9000) || nc_.contains r.2.2.2.1
  | _ => true
theorem nx_B : nc_.all (fun k => (px_blk k).all fun b => b.2.all nx_) = true := by decide +kernel
theorem lk_ {t : Nat} : ∀ {l : List (Nat × List px_I)} {r : List px_I}, l.lookup t = some r → ∃ p, p ∈ l ∧ p.2 = r
  | [], r, h => by cases h
  | (a, b) :: l, r, h => by
    rw [List.lookup_cons] at h
    split at h
    · injection h with h; exact ⟨_, List.mem_cons_self, h⟩
    · obtain ⟨p, h1, h2⟩ := lk_ h; exact ⟨p, List.mem_cons_of_mem _ h1, h2⟩
theorem nx_to {k t : Nat} (hk : k ∈ nc_) : (px_to k t).all nx_ = true := by
  unfold px_to
  rcases h : (px_blk k).lookup t with _ | r
  · rfl
  · obtain ⟨p, h1, h2⟩ := lk_ h
    have := List.all_eq_true.mp (List.all_eq_true.mp nx_B k hk) p h1
    rw [h2] at this; exact this
theorem nx_st {X : px_X} {ini : Nat} {rem : Nat × Nat} {pc a b len : Nat} {v : Int32} {i : Instr} {L st : List Value} {h : px_H} (hn : nx_ (pc, i, len, a, b, v) = true) : px_step X ini rem pc i a b v L st h = px_step px_x0 ini rem pc i a b v L st h := by
  cases i with
  | arraylength => exact absurd (show false = true from hn) (by decide)
  | iaload => exact absurd (show false = true from hn) (by decide)
  | _ => rfl
theorem nx_d {X : px_X} {N k : Nat} {rem : Nat × Nat} {suf : List px_I} (ih : ∀ (k : Nat) (rem : Nat × Nat) (suf : List px_I) (L st : List Value) (h : px_H), k ∈ nc_ → suf.all nx_ = true → px_run X N k rem suf L st h = px_run px_x0 N k rem suf L st h) (hk : k ∈ nc_) (hs : suf.all nx_ = true) (o : Option px_R) : (match o with
      | some (none, L, st', h) => px_run X N k rem suf L st' h
      | some (some t, L, st', h) => px_run X N k rem (px_to k t) L st' h
      | none => none) = (match o with
      | some (none, L, st', h) => px_run px_x0 N k rem suf L st' h
      | some (some t, L, st', h) => px_run px_x0 N k rem (px_to k t) L st' h
      | none => none) := by
  rcases o with _ | ⟨_ | t, L, st', h⟩
  · rfl
  · exact ih _ _ _ _ _ _ hk hs
  · exact ih _ _ _ _ _ _ hk (nx_to hk)
theorem nx_run {X : px_X} : ∀ (N k : Nat) (rem : Nat × Nat) (suf : List px_I) (L st : List Value) (h : px_H), k ∈ nc_ → suf.all nx_ = true → px_run X N k rem suf L st h = px_run px_x0 N k rem suf L st h
  | 0, k, rem, suf, L, st, h, _, _ => by unfold px_run; rfl
  | N + 1, k, rem, [], L, st, h, _, _ => by unfold px_run; rfl
  | N + 1, k, rem, (pc, i, len, a, b, v) :: suf, L, st, h, hk, hs => by
    have ih := nx_run (X := X) N
    rw [List.all_cons, Bool.and_eq_true] at hs
    obtain ⟨hr, hs⟩ := hs
    have e := nx_st (X := X) (ini := px_ini k) (rem := rem) (L := L) (st := st) (h := h) hr
    have d := nx_d (X := X) (rem := px_remN rem i a st) ih hk hs (px_step px_x0 (px_ini k) rem pc i a b v L st h)
    unfold px_run
    cases i with
    | invokespecial idx =>
      dsimp only
      by_cases h9 : a = 9000
      · rw [if_pos h9, if_pos h9]
        rcases st with _ | ⟨x, st⟩
        · rfl
        · cases x <;> first | rfl | (dsimp only; split; · exact ih _ _ _ _ _ _ hk hs
                                     · rfl)
      · rw [if_neg h9, if_neg h9]
        have ha : a ∈ nc_ := by
          have : (decide (a = 9000) || nc_.contains a) = true := hr
          simpa [h9] using this
        split
        · rw [ih a _ (px_ct a) _ _ _ ha (nx_to ha)]
          rcases px_run px_x0 N a (px_mc a, px_ms a) (px_ct a) (px_ent (st.take b).reverse (px_mx a)) [] h with _ | ⟨r, h'⟩
          · rfl
          · dsimp only
            rw [ih k _ suf _ _ h' hk hs]
        · rfl
    | invokevirtual idx => exact absurd (show false = true from hr) (by decide)
    | invokestatic idx => exact absurd (show false = true from hr) (by decide)
    | ireturn => rfl
    | lreturn => rfl
    | areturn => rfl
    | return_ => rfl
    | _ => dsimp only; rw [e]; exact d
/-- the run of the constructors, whatever the script -/
theorem tr_X {X : px_X} {k : Nat} {N : Nat} {rem : Nat × Nat} {L st : List Value} {h : px_H} (hk : k ∈ nc_) : px_run X N k rem (px_ct k) L st h = px_run px_x0 N k rem (px_ct k) L st h := nx_run N k rem _ L st h hk (nx_to hk)
