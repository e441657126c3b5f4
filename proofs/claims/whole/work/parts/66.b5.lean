/-! AN ITEM ADDED to the class's street 17. -/
section WD
variable {X : px_X} {S : Nat → Nat → Nat → Nat} {D : pu_D}
theorem sp_48m {w : Nat} {P : pu_D → Prop} (hw : w < 4) : pu_V X 48 [.ref 17, .int (nu_i w), .ref 51] D P = P (pu_wi D 18 w (D.1 51 0)) := by
  refine pu_V_of (pu_e48 ?_) P
  rw [if_neg (by rw [nu_lt0 (by omega)]; exact fun z => z), if_pos (show nu_i w < (11 : Int32) from nu_ltp (b := 11) (by omega) (by omega)), if_neg (show ¬ (3 : Int32) < nu_i w by rw [nu_nlt (by omega) (by omega)]; show ¬ 3 < w; omega), nu_in (by omega), nu_ix (by omega)]
  exact ⟨hw, rfl⟩
/-- what is added: a place's lamp is none -/
def v51_ (D : pu_D) (t : Nat) : Nat → Int32 := fun w => if w = 0 then D.1 51 0 else if w = 1 then D.1 51 1 else if w = 2 then (if t = 1 then -1 else D.1 51 2) else if t = 1 then 0 else D.1 51 3
theorem sp_48t {t : Nat} {P : pu_D → Prop} (hC : re_C 17 S D) (ht : t < 7) (hlt : S 8 0 t < mo_ t) (hP : ∀ D', ca_ 17 t (S 8 0 t) (v51_ D t) D D' → P D') : pu_V X 48 [.ref 17, .int (nu_i (4 + t)), .ref 51] D P := by
  refine pu_e48 ?_
  rw [if_neg (by rw [nu_lt0 (by omega)]; exact fun z => z), if_pos (show nu_i (4 + t) < (11 : Int32) from nu_ltp (b := 11) (by omega) (by omega)), if_pos (show (3 : Int32) < nu_i (4 + t) by rw [nu_nlt (by omega) (by omega)]; show 3 < 4 + t; omega)]
  by_cases h1 : t = 1
  · subst h1
    rw [if_pos (by decide)]
    refine sp_84 (b := 17) (t := 1) (Or.inr rfl) (by omega) hC hlt fun D' hc => hP D' ?_
    exact hc
  · rw [if_neg (show ¬ nu_i (4 + t) = (5 : Int32) by rw [nu_eqn (by omega) (by omega)]; show ¬ 4 + t = 5; omega), sp_49 ht]
    have hq := (tq_ (b := 17) (Or.inr rfl) ht).1
    refine ⟨hq, ?_⟩
    refine sp_84 (b := 17) (t := t) (Or.inr rfl) ht hC hlt fun D' hc => hP D' ?_
    have e : v51_ D t = fun w => if w = 0 then D.1 51 0 else if w = 1 then D.1 51 1 else if w = 2 then D.1 51 2 else D.1 51 3 := by
      funext w
      unfold v51_
      rw [if_neg h1, if_neg h1]
    rw [e]
    exact hc
end WD
