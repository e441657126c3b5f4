/-! THE WORDS, their letters. -/
section WD
variable {X : px_X} {D : pu_D}
theorem wo_B : (List.range 11).all (fun w => decide (Int32.ofNat (pu_sl (1000 + w)) >>> ((0 : Int32) &&& 31) = nu_i (px_wl.getD w 0)) && decide (pu_sl (1000 + w) = px_wl.getD w 0) && (List.range (px_wl.getD w 0)).all fun i => decide ((Int32.toUInt32 ((pu_sb (1000 + w) i) &&& 255) % 65536).toInt32 = (px_wb.getD w []).getD i 0) && decide (px_rti (px_rt 256) ((px_wb.getD w []).getD i 0) = true) && decide (px_rti (px_rt 252) ((px_wb.getD w []).getD i 0) = true)) = true := by decide +kernel
theorem wor_ {w : Nat} (hw : w < 11) : Int32.ofNat (pu_sl (1000 + w)) >>> ((0 : Int32) &&& 31) = nu_i (px_wl.getD w 0) ∧ pu_sl (1000 + w) = px_wl.getD w 0 ∧ ∀ i, i < px_wl.getD w 0 → (Int32.toUInt32 ((pu_sb (1000 + w) i) &&& 255) % 65536).toInt32 = (px_wb.getD w []).getD i 0 ∧ px_rti (px_rt 256) ((px_wb.getD w []).getD i 0) = true ∧ px_rti (px_rt 252) ((px_wb.getD w []).getD i 0) = true := by
  have h := List.all_eq_true.mp wo_B w (List.mem_range.mpr hw)
  simp only [Bool.and_eq_true, decide_eq_true_eq] at h
  refine ⟨h.1.1, h.1.2, fun i hi => ?_⟩
  have h2 := List.all_eq_true.mp h.2 i (List.mem_range.mpr hi)
  simp only [Bool.and_eq_true, decide_eq_true_eq] at h2
  exact ⟨h2.1.1, h2.1.2, h2.2⟩
theorem sp_251 {w : Nat} {P : Int32 → pu_D → Prop} (hw : w < 11) : pu_I X 251 [.ref (1000 + w)] D P = P (nu_i (px_wl.getD w 0)) D := by
  refine pu_I_of (pu_e251 ⟨by omega, by omega⟩ (pu_e253 ⟨by omega, by omega⟩ ⟨by decide +kernel, ?_⟩)) P
  exact ⟨(wor_ hw).1, rfl⟩
theorem sp_147 {w : Nat} {P : Nat → pu_D → Prop} (hw : w < 11) : pu_R X 147 [.int (nu_i w)] D P = P (1000 + w) D := by
  refine pu_R_of (pu_e147 ?_) P
  rcases (show w = 0 ∨ w = 1 ∨ w = 2 ∨ w = 3 ∨ w = 4 ∨ w = 5 ∨ w = 6 ∨ w = 7 ∨ w = 8 ∨ w = 9 ∨ w = 10 by omega) with rfl | rfl | rfl | rfl | rfl | rfl | rfl | rfl | rfl | rfl | rfl <;> simp (decide := true) only [if_true, if_false]
theorem sp_78 {x : Int32} {P : Int32 → pu_D → Prop} : pu_I X 78 [.int x] D P = P (nu_b (rb_ x 48 57)) D := by
  refine pu_I_of (pu_e78 ?_) P
  by_cases h1 : x < 48
  · rw [if_pos h1, nu_bF (fun z => z.1 h1)]; exact ⟨rfl, rfl⟩
  rw [if_neg h1]
  by_cases h2 : 57 < x
  · rw [if_pos h2, nu_bF (fun z => z.2 h2)]; exact ⟨rfl, rfl⟩
  rw [if_neg h2, nu_bT ⟨h1, h2⟩]; exact ⟨rfl, rfl⟩
theorem sp_40g {n so sz i : Nat} {P : Int32 → pu_D → Prop} (hn : n < 8) (h : ro_ D n so sz) (hi : i < 2147483648) : pu_I X 40 [.ref (69 + 2 * n), .int (nu_i i)] D P = P (jv_ D n sz i) D := by
  obtain ⟨s1, s2, s3⟩ := sv_ hn
  obtain ⟨r1, r2, r3, r4, r5, r6, r7, r8⟩ := h
  refine pu_I_of (pu_e40 s2 (pu_e39 s2 ?_)) P
  rw [r7, s3, if_neg (by rw [nu_lt0 hi]; exact fun z => z), nu_in hi, nu_ix hi]
  unfold jv_
  by_cases hs : i < sz
  · rw [if_pos (nu_ltp (by omega) hs), if_pos hs, r8 i hs]; exact ⟨by omega, rfl, rfl⟩
  · rw [if_neg (nu_ltx hi hs), if_neg hs]; exact ⟨by decide, rfl⟩
theorem sp_252 {w i : Nat} {P : Int32 → pu_D → Prop} (hw : w < 11) (hi : i < px_wl.getD w 0) : pu_I X 252 [.ref (1000 + w), .int (nu_i i)] D P = P ((px_wb.getD w []).getD i 0) D := by
  obtain ⟨w1, w2, w3⟩ := wor_ hw
  obtain ⟨v1, v2, v3⟩ := w3 i hi
  have hl : px_wl.getD w 0 ≤ 6 := by
    rcases (show w = 0 ∨ w = 1 ∨ w = 2 ∨ w = 3 ∨ w = 4 ∨ w = 5 ∨ w = 6 ∨ w = 7 ∨ w = 8 ∨ w = 9 ∨ w = 10 by omega) with rfl | rfl | rfl | rfl | rfl | rfl | rfl | rfl | rfl | rfl | rfl <;> decide
  refine pu_I_of (pu_e252 ⟨by omega, by omega⟩ (pu_e254 ⟨by omega, by omega⟩ ?_)) P
  rw [if_neg (by decide)]
  refine pu_e256 ⟨by omega, by omega⟩ (pu_e255 (pu_e259 ?_))
  rw [w2, if_neg (by rw [nu_lt0 (by omega)]; exact fun z => z), if_pos (show nu_i i < Int32.ofNat (px_wl.getD w 0) from nu_ltp (by omega) hi), nu_in (by omega), nu_ix (by omega), v1]
  exact ⟨hi, v2, v3, rfl, rfl⟩
/-- how many letters of word w stand at p -/
def sl_w (D : pu_D) (n sz p w : Nat) : Nat := fi_ (fun i => !decide (jv_ D n sz (p + i) = (px_wb.getD w []).getD i 0)) (px_wl.getD w 0)
theorem sp_76 {n so sz p w : Nat} {P : Int32 → pu_D → Prop} (hn : n < 8) (h : ro_ D n so sz) (hp : p ≤ 200) (hw : w < 11) : pu_I X 76 [.ref (69 + 2 * n), .int (nu_i p), .ref (1000 + w)] D P = P (nu_i (sl_w D n sz p w)) D := by
  obtain ⟨s1, s2, s3⟩ := sv_ hn
  have hl : px_wl.getD w 0 ≤ 6 := by
    rcases (show w = 0 ∨ w = 1 ∨ w = 2 ∨ w = 3 ∨ w = 4 ∨ w = 5 ∨ w = 6 ∨ w = 7 ∨ w = 8 ∨ w = 9 ∨ w = 10 by omega) with rfl | rfl | rfl | rfl | rfl | rfl | rfl | rfl | rfl | rfl | rfl <;> decide
  refine pu_I_of (pu_e76 s2 ⟨by omega, by omega⟩ ?_) P
  refine lo_fi (fun x => pu_h76_2 X (69 + 2 * n) (nu_i p) (1000 + w) x D _) (px_wl.getD w 0) (fun i => !decide (jv_ D n sz (p + i) = (px_wb.getD w []).getD i 0)) (fun i hi hb hh => ?_) ?_
  · refine pu_u76_2 s2 ⟨by omega, by omega⟩ ?_
    rw [sp_251 hw, if_pos (nu_ltp (by omega) hi), nu_add, sp_40g hn h (by omega), sp_252 hw hi, if_pos (by simpa using hb), nu_addn]
    exact hh
  · have hle := fi_le (fun i => !decide (jv_ D n sz (p + i) = (px_wb.getD w []).getD i 0)) (px_wl.getD w 0)
    have hat := (fi_at (fun i => !decide (jv_ D n sz (p + i) = (px_wb.getD w []).getD i 0)) (px_wl.getD w 0)).1
    refine pu_u76_2 s2 ⟨by omega, by omega⟩ ?_
    rw [sp_251 hw]
    by_cases hf : fi_ (fun i => !decide (jv_ D n sz (p + i) = (px_wb.getD w []).getD i 0)) (px_wl.getD w 0) < px_wl.getD w 0
    · rw [if_pos (nu_ltp (by omega) hf), nu_add, sp_40g hn h (by omega), sp_252 hw hf, if_neg (by simpa using hat hf)]
      exact ⟨rfl, rfl⟩
    · rw [if_neg (nu_ltx (by omega) hf)]
      exact ⟨rfl, rfl⟩
end WD
