/-! THE CLASS'S STREET, method by method, as numbers. -/
theorem nu_min (a b : Nat) : (if b < a then nu_i b else nu_i a) = nu_i (min a b) := by
  by_cases h : b < a
  · rw [if_pos h, Nat.min_eq_right (by omega)]
  · rw [if_neg h, Nat.min_eq_left (by omega)]
theorem nu_max (a b : Nat) : (if a < b then nu_i b else nu_i a) = nu_i (max a b) := by
  by_cases h : a < b
  · rw [if_pos h, Nat.max_eq_right (by omega)]
  · rw [if_neg h, Nat.max_eq_left (by omega)]
/-- how far -/
def di_ (a b : Nat) : Nat := (a - b) + (b - a)
theorem nu_neg (a b : Nat) : nu_i a - nu_i b = -(nu_i b - nu_i a) := by grind
theorem nu_sq (a b : Nat) : (nu_i a - nu_i b) * (nu_i a - nu_i b) = nu_i (di_ a b * di_ a b) := by
  unfold di_
  rcases Nat.le_total b a with h | h
  · rw [nu_sub h, nu_mul, show a - b + (b - a) = a - b by omega]
  · have e : (nu_i a - nu_i b) * (nu_i a - nu_i b) = (nu_i b - nu_i a) * (nu_i b - nu_i a) := by grind
    rw [e, nu_sub h, nu_mul, show a - b + (b - a) = b - a by omega]
theorem nu_le0 {a : Nat} (h : a < 2147483648) : (0 : Int32) ≤ nu_i a := Int32.zero_le_ofNat_of_lt h
theorem nu_abs {a b : Nat} (ha : a < 1000) (hb : b < 1000) : (if 0 ≤ (nu_i a - nu_i b) then (nu_i a - nu_i b) else 0 - (nu_i a - nu_i b)) = nu_i (di_ a b) := by
  unfold di_
  rcases Nat.lt_or_ge a b with h | h
  · have h1 : ¬ (0 : Int32) ≤ nu_i a - nu_i b := by
      rw [nu_neg, nu_sub (Nat.le_of_lt h)]
      intro hc
      have h2 := Int32.le_iff_toInt_le.mp hc
      rw [Int32.toInt_neg] at h2
      have h3 : (nu_i (b - a)).toInt = ((b - a : Nat) : Int) := Int32.toInt_ofNat_of_lt (by omega)
      rw [h3, Int.bmod_eq_of_le (by omega) (by omega)] at h2
      have : (0 : Int32).toInt = 0 := rfl
      omega
    rw [if_neg h1, show a - b + (b - a) = b - a by omega, ← nu_sub (Nat.le_of_lt h)]
    grind
  · rw [nu_sub h, if_pos (nu_le0 (by omega)), show a - b + (b - a) = a - b by omega]
/-- a tree or wall at y stands between a and b, on a's side -/
def bw_ (y a b : Nat) : Bool := decide (y % 2 = a % 2) && (decide (min (a / 2) (b / 2) < y / 2) && decide (y / 2 < max (a / 2) (b / 2)))
def cb_ (S : Nat → Nat → Nat → Nat) (t a b : Nat) : Nat := ct_ (fun i => bw_ (S t i 0) a b) (S 8 0 t)
def sq_ (S : Nat → Nat → Nat → Nat) (a b : Nat) : Nat := if a % 2 = b % 2 then di_ (a / 2) (b / 2) * di_ (a / 2) (b / 2) else di_ (a / 2) (b / 2) * di_ (a / 2) (b / 2) + S 7 0 2 * S 7 0 2
def ba_ (S : Nat → Nat → Nat → Nat) (s sq : Nat) : Nat := 1000 * S 0 s 1 / (S 0 s 0 * S 0 s 0 + sq)
def lv_ (m : Nat) : Nat := [0, 0, 0, 1, 2, 3, 3, 3, 2, 1, 0, 0].getD m 0
def sd_ (m x : Nat) : Nat := x * (4 - lv_ m) / 4
/-- what a lamp of sort s at place p gives a point -/
def gv_ (S : Nat → Nat → Nat → Nat) (p s q m : Nat) : Nat := if 0 < cb_ S 3 (S 1 p 0) q then 0 else it_ (sd_ m) (cb_ S 2 (S 1 p 0) q) (ba_ S s (sq_ S (S 1 p 0) q))
def ol_ (S : Nat → Nat → Nat → Nat) (h : Bool) (p q m : Nat) : Nat := if h = true then gv_ S p (S 1 p 2 - 1) q m / 2 else gv_ S p (S 1 p 2 - 1) q m
def li_ (S : Nat → Nat → Nat → Nat) (set : Nat) (h : Bool) (q m : Nat) : Nat := su_ (fun p => if set.testBit p = true then ol_ S h p q m else 0) (S 8 0 1)
def fa_ (S : Nat → Nat → Nat → Nat) (set : Nat) (h : Bool) (q m : Nat) : Nat := su_ (fun p => if q / 2 < S 1 p 0 / 2 then (if set.testBit p = true then ol_ S h p q m / 2 else 0) else 0) (S 8 0 1)
def br_ (S : Nat → Nat → Nat → Nat) (set : Nat) (h : Bool) (q m : Nat) (n : Nat) : Nat × Nat := fo_ (fun p r => if set.testBit p = true ∧ r.2 < ol_ S h p q m then (p + 1, ol_ S h p q m) else r) n (0, 0)
/-- a shop's light -/
def sa_ (S : Nat → Nat → Nat → Nat) (i q : Nat) : Nat := if S 5 i 0 % 2 = q % 2 then (if di_ (S 5 i 0 / 2) (q / 2) = 0 then S 5 i 1 else if di_ (S 5 i 0 / 2) (q / 2) = 1 then S 5 i 1 / 2 else if di_ (S 5 i 0 / 2) (q / 2) = 2 then S 5 i 1 / 4 else 0) else 0
def so_ (S : Nat → Nat → Nat → Nat) (i q h : Nat) : Nat := if h < S 5 i 2 then sa_ S i q else 0
def sh_ (S : Nat → Nat → Nat → Nat) (q h : Nat) : Nat := su_ (fun i => so_ S i q h) (S 8 0 5)
def co_ (S : Nat → Nat → Nat → Nat) (set s : Nat) : Nat := su_ (fun p => if set.testBit p = true then S 0 s 2 + S 1 p 1 else 0) (S 8 0 1)
def ip_ (S : Nat → Nat → Nat → Nat) (q : Nat) : Bool := decide (fi_ (fun i => decide (S 6 i 0 = q)) (S 8 0 6) < S 8 0 6)
def os_ (S : Nat → Nat → Nat → Nat) (a : Nat) : Nat := bs_ (fun p => decide (S 1 p 0 % 2 = a)) (S 8 0 1)
/-- in turn: (bits, the side that is wanted) -/
def tf_ (S : Nat → Nat → Nat → Nat) (all y p : Nat) (r : Nat × Nat) : Nat × Nat := if all.testBit p = true ∧ S 1 p 0 / 2 = y ∧ S 1 p 0 % 2 = r.2 then (r.1 ||| 1 <<< p, 1 - r.2) else r
def tu_ (S : Nat → Nat → Nat → Nat) (all a : Nat) : Nat × Nat := fo_ (fun y r => fo_ (tf_ S all y) (S 8 0 1) r) 60 (0, a)
def bn_ (S : Nat → Nat → Nat → Nat) (k a w : Nat) : Nat := if k = 1 then bb_ S &&& os_ S a else if k = 3 then (tu_ S (bb_ S) a).1 else if k = 5 then bb_ S &&& w else if k = 6 then bb_ S &&& a else bb_ S
/-- bulbs -/
def bg_ (S : Nat → Nat → Nat → Nat) (n : Nat) : Nat := su_ (fun p => if S 1 p 2 = 0 then 0 else n / S 0 (S 1 p 2 - 1) 3 * (S 0 (S 1 p 2 - 1) 2 + 30)) (S 8 0 1)
def bc_ (S : Nat → Nat → Nat → Nat) (n : Nat) : Nat := su_ (fun p => if S 1 p 2 = 0 then 0 else S 0 (S 1 p 2 - 1) 2) n
def bm_ (S : Nat → Nat → Nat → Nat) (n : Nat) (i : Nat) : Nat := fo_ (fun p a => if S 1 p 2 = 0 then a else min a (S 0 (S 1 p 2 - 1) 3)) i (n + 1)
section SP
variable {X : px_X} {S : Nat → Nat → Nat → Nat} {D : pu_D}
theorem cb_le (hW : wf_ S) {t a b : Nat} (ht : t < 7) : cb_ S t a b ≤ 12 := by
  have := ct_le (fun i => bw_ (S t i 0) a b) (S 8 0 t)
  have h := hW.1 t ht
  have : mo_ t ≤ 12 := by
    rcases (show t = 0 ∨ t = 1 ∨ t = 2 ∨ t = 3 ∨ t = 4 ∨ t = 5 ∨ t = 6 by omega) with rfl | rfl | rfl | rfl | rfl | rfl | rfl <;> decide
  unfold cb_; omega
theorem ba_le (hW : wf_ S) {s sq : Nat} (hs : s < S 8 0 0) : ba_ S s sq ≤ 99000 := by
  have hv := wf_s hW hs
  unfold ba_
  exact Nat.le_trans (Nat.div_le_self _ _) (by omega)
theorem sd_le (m x : Nat) : sd_ m x ≤ x := by
  unfold sd_
  have : x * (4 - lv_ m) ≤ x * 4 := Nat.mul_le_mul_left x (by omega)
  omega
theorem it_le {f : Nat → Nat} (h : ∀ x, f x ≤ x) (n a : Nat) : it_ f n a ≤ a := by
  induction n with
  | zero => exact Nat.le_refl _
  | succ n ih => exact Nat.le_trans (h _) ih
theorem gv_le (hW : wf_ S) {p s q m : Nat} (hs : s < S 8 0 0) : gv_ S p s q m ≤ 99000 := by
  unfold gv_
  split
  · omega
  · exact Nat.le_trans (it_le (sd_le m) _ _) (ba_le hW hs)
theorem ol_le (hW : wf_ S) {h : Bool} {p q m : Nat} (hp : p < S 8 0 1) (hl : S 1 p 2 ≠ 0) : ol_ S h p q m ≤ 99000 := by
  have hv := wf_p hW hp
  have := gv_le hW (p := p) (s := S 1 p 2 - 1) (q := q) (m := m) (by omega)
  unfold ol_; split <;> omega
theorem li_le (hW : wf_ S) {set : Nat} {h : Bool} {q m : Nat} (hl : ∀ p, p < S 8 0 1 → set.testBit p = true → S 1 p 2 ≠ 0) : li_ S set h q m ≤ 891000 := by
  have hn := wf_n hW
  have : li_ S set h q m ≤ S 8 0 1 * 99000 := su_le fun p hp => by
    split
    · rename_i h1; exact ol_le hW hp (hl p hp h1)
    · omega
  omega
theorem so_le (hW : wf_ S) {i q h : Nat} (hi : i < S 8 0 5) : so_ S i q h ≤ 999 ∧ sa_ S i q ≤ 999 := by
  have hv := wf_h hW hi
  have : sa_ S i q ≤ 999 := by
    unfold sa_
    split
    · split
      · omega
      · split
        · omega
        · split <;> omega
    · omega
  refine ⟨?_, this⟩
  unfold so_; split <;> omega
theorem sh_le (hW : wf_ S) {q h : Nat} : sh_ S q h ≤ 7992 := by
  have hn := wf_n hW
  have : sh_ S q h ≤ S 8 0 5 * 999 := su_le fun i hi => (so_le hW hi).1
  omega
theorem sp_62 (hC : re_C 1 S D) (hW : wf_ S) {t q1 a b : Nat} {P : Int32 → pu_D → Prop} (hq : (t = 2 ∧ q1 = 7) ∨ (t = 3 ∧ q1 = 9)) (ha : a < 120) (hb : b < 120) : pu_I X 62 [.ref 1, .ref q1, .int (nu_i a), .int (nu_i b)] D P = P (nu_i (cb_ S t a b)) D := by
  have hn := wf_n hW
  obtain ⟨c3, c5, c7, c9, c11, c13, c15⟩ := re_n hC
  have hcl : pu_cl q1 = 6 := by rcases hq with ⟨-, rfl⟩ | ⟨-, rfl⟩ <;> decide +kernel
  have ht : t < 7 ∧ 2 ≤ t := by omega
  have hcn : D.1 q1 2 = nu_i (S 8 0 t) := by rcases hq with ⟨rfl, rfl⟩ | ⟨rfl, rfl⟩ <;> assumption
  have hnt : S 8 0 t ≤ 12 := by rcases hq with ⟨rfl, rfl⟩ | ⟨rfl, rfl⟩ <;> omega
  have hnum : ∀ i, i < S 8 0 t → ∀ P, pu_I X 82 [.ref q1, .int (nu_i i), .int 0] D P = P (nu_i (S t i 0)) D := by
    intro i hi P
    rcases hq with ⟨rfl, rfl⟩ | ⟨rfl, rfl⟩
    · exact sp_n7_0 hC hW hi
    · exact sp_n9_0 hC hW hi
  refine pu_I_of (pu_e62 hcl ?_) P
  simp (disch := omega) only [sp_143, nu_lt, nu_min, nu_max]
  refine lo_ix (fun k x => pu_h62_32 X q1 (nu_i a) (nu_i (min (a / 2) (b / 2))) (nu_i (max (a / 2) (b / 2))) (nu_i k) x D _) (S 8 0 t) (ct_ (fun i => bw_ (S t i 0) a b)) (fun i hi h => ?_) ?_
  · have h5 := ct_le (fun i => bw_ (S t i 0) a b) i
    have hv := wf_t hW t ht.1 ht.2 hi
    refine pu_u62_32 hcl ?_
    simp (disch := omega) only [hcn, nu_lt, hi, if_true, hnum i hi, sp_143, sp_144, nu_eq, nu_addn]
    by_cases h1 : S t i 0 % 2 = a % 2
    · by_cases h2 : min (a / 2) (b / 2) < S t i 0 / 2
      · by_cases h3 : S t i 0 / 2 < max (a / 2) (b / 2)
        · simp only [ct_, bw_, h1, h2, h3, decide_true, Bool.and_true, if_true] at h ⊢; exact h
        · simp only [ct_, bw_, h1, h2, h3, decide_true, decide_false, Bool.and_false, if_true, if_false, Bool.false_eq_true] at h ⊢; exact h
      · simp only [ct_, bw_, h1, h2, decide_true, decide_false, Bool.and_false, Bool.false_and, if_true, if_false, Bool.false_eq_true] at h ⊢; exact h
    · simp only [ct_, bw_, h1, decide_false, Bool.false_and, if_false, Bool.false_eq_true] at h ⊢; exact h
  · refine pu_u62_32 hcl ?_
    simp (disch := omega) only [hcn, nu_lt, Nat.lt_irrefl, if_false]
    exact ⟨by trivial, by trivial⟩
theorem sp_60 (hC : re_C 1 S D) (hW : wf_ S) {s sq : Nat} {P : Int32 → pu_D → Prop} (hs : s < S 8 0 0) (hq : sq ≤ 10000) : pu_I X 60 [.ref 1, .int (nu_i s), .int (nu_i sq)] D P = P (nu_i (ba_ S s sq)) D := by
  have hn := wf_n hW
  have hv := wf_s hW hs
  have h1 : 1 * 1 ≤ S 0 s 0 * S 0 s 0 := Nat.mul_le_mul hv.1.1 hv.1.1
  have h2 : S 0 s 0 * S 0 s 0 ≤ 12 * 12 := Nat.mul_le_mul hv.1.2 hv.1.2
  refine pu_I_of (pu_e60 ?_) P
  simp (disch := omega) only [sp_n3_0 hC hW, sp_n3_1 hC hW, nu_mul, nu_add, nu_ltn, nu_nmul, nu_eqn, nu_div]
  rw [if_neg (by omega)]
  exact ⟨by omega, rfl, trivial⟩
theorem sq_le (hW : wf_ S) {a b : Nat} (ha : a < 120) (hb : b < 120) : sq_ S a b ≤ 3700 ∧ di_ (a / 2) (b / 2) ≤ 59 := by
  have hm := wf_m hW
  have h1 : di_ (a / 2) (b / 2) ≤ 59 := by unfold di_; omega
  have h2 : di_ (a / 2) (b / 2) * di_ (a / 2) (b / 2) ≤ 59 * 59 := Nat.mul_le_mul h1 h1
  have h3 : S 7 0 2 * S 7 0 2 ≤ 12 * 12 := Nat.mul_le_mul hm.2.2.1.2 hm.2.2.1.2
  refine ⟨?_, h1⟩
  unfold sq_; split <;> omega
theorem lv_le (m : Nat) (hm : m < 12) : lv_ m ≤ 3 := by
  have h : (List.range 12).all (fun m => decide (lv_ m ≤ 3)) = true := by decide
  exact of_decide_eq_true (List.all_eq_true.mp h m (List.mem_range.mpr hm))
theorem lv_sa {m : Nat} (hm : m < 12) : (4 : Int32) - pu_sa 3 m = nu_i (4 - lv_ m) := by
  have h : (List.range 12).all (fun m => decide ((4 : Int32) - pu_sa 3 m = nu_i (4 - lv_ m))) = true := by decide +kernel
  exact of_decide_eq_true (List.all_eq_true.mp h m (List.mem_range.mpr hm))
theorem sp_61L {k m x : Nat} {P : Int32 → pu_D → Prop} (hm : m < 12) (hk : k < 100) (hx : x ≤ 99000) (h : P (nu_i (it_ (sd_ m) k x)) D) : pu_h61_111 X (nu_i m) (nu_i x) (nu_i k) 0 D P := by
  refine lo_ix (fun a y => pu_h61_111 X (nu_i m) (nu_i a) (nu_i k) y D P) k (fun i => it_ (sd_ m) i x) (fun i hi h => ?_) ?_
  · have h5 := it_le (sd_le m) i x
    have h6 : it_ (sd_ m) i x * (4 - lv_ m) ≤ it_ (sd_ m) i x * 4 := Nat.mul_le_mul_left _ (by omega)
    refine pu_u61_111 ?_
    simp (disch := omega) only [nu_lt, hi, if_true, nu_in, nu_ix, lv_sa hm, nu_mul, nu_divn, nu_addn]
    exact ⟨hm, h⟩
  · refine pu_u61_111 ?_
    simp (disch := omega) only [nu_lt, Nat.lt_irrefl, if_false]
    exact h
theorem sp_61 (hC : re_C 1 S D) (hW : wf_ S) {p s q m : Nat} {P : Int32 → pu_D → Prop} (hp : p < S 8 0 1) (hs : s < S 8 0 0) (hq : q < 120) (hm : m < 12) : pu_I X 61 [.ref 1, .int (nu_i p), .int (nu_i s), .int (nu_i q), .int (nu_i m)] D P = P (nu_i (gv_ S p s q m)) D := by
  have hn := wf_n hW
  have hv := wf_p hW hp
  have hM := wf_m hW
  obtain ⟨-, -, m2, -⟩ := re_m hC
  have c2 := cb_le hW (t := 2) (a := S 1 p 0) (b := q) (by omega)
  have c3 := cb_le hW (t := 3) (a := S 1 p 0) (b := q) (by omega)
  have q2 := sq_le hW hv.1 hq
  have b2 := ba_le hW (sq := sq_ S (S 1 p 0) q) hs
  have d2 : di_ (S 1 p 0 / 2) (q / 2) * di_ (S 1 p 0 / 2) (q / 2) ≤ 59 * 59 := Nat.mul_le_mul q2.2 q2.2
  have e2 : S 7 0 2 * S 7 0 2 ≤ 12 * 12 := Nat.mul_le_mul hM.2.2.1.2 hM.2.2.1.2
  refine pu_I_of (pu_e61 ?_) P
  rw [sp_140 hm, if_neg (by decide)]
  rw [sp_n5_0 hC hW hp, sp_62 hC hW (Or.inr ⟨rfl, rfl⟩) hv.1 hq]
  simp (disch := omega) only [nu_nlt]
  by_cases h0 : 0 < cb_ S 3 (S 1 p 0) q
  · rw [if_pos h0]; unfold gv_; rw [if_pos h0]; exact ⟨by trivial, by trivial⟩
  · rw [if_neg h0]
    simp (disch := omega) only [sp_143, sp_144, nu_eq, nu_sq, m2, nu_mul, nu_add]
    by_cases h1 : S 1 p 0 % 2 = q % 2
    · rw [if_pos h1, sp_60 hC hW hs (by omega), sp_62 hC hW (Or.inl ⟨rfl, rfl⟩) hv.1 hq]
      have e : di_ (S 1 p 0 / 2) (q / 2) * di_ (S 1 p 0 / 2) (q / 2) = sq_ S (S 1 p 0) q := by unfold sq_; rw [if_pos h1]
      rw [e]
      refine sp_61L hm (by omega) (by omega) ?_
      unfold gv_; rw [if_neg h0]; exact ⟨by trivial, by trivial⟩
    · rw [if_neg h1, sp_60 hC hW hs (by omega), sp_62 hC hW (Or.inl ⟨rfl, rfl⟩) hv.1 hq]
      have e : di_ (S 1 p 0 / 2) (q / 2) * di_ (S 1 p 0 / 2) (q / 2) + S 7 0 2 * S 7 0 2 = sq_ S (S 1 p 0) q := by unfold sq_; rw [if_neg h1]
      rw [e]
      refine sp_61L hm (by omega) (by omega) ?_
      unfold gv_; rw [if_neg h0]; exact ⟨by trivial, by trivial⟩
theorem nu_lp {a : Nat} (h : ¬ a = 0) : nu_l a = nu_i (a - 1) := if_neg h
theorem sp_63 (hC : re_C 1 S D) (hW : wf_ S) {p q m : Nat} {h : Bool} {P : Int32 → pu_D → Prop} (hp : p < S 8 0 1) (hl : ¬ S 1 p 2 = 0) (hq : q < 120) (hm : m < 12) : pu_I X 63 [.ref 1, .int (nu_i p), .int (nu_b (h = true)), .int (nu_i q), .int (nu_i m)] D P = P (nu_i (ol_ S h p q m)) D := by
  have hv := wf_p hW hp
  have hn := wf_n hW
  have g := gv_le hW (p := p) (s := S 1 p 2 - 1) (q := q) (m := m) (by omega)
  refine pu_I_of (pu_e63 ?_) P
  rw [sp_n5_2 hC hW hp, nu_lp hl, sp_61 hC hW hp (by omega) hq hm]
  simp (disch := omega) only [nu_b0, nu_divn]
  unfold ol_
  cases h
  · rw [if_pos (by decide), if_neg (by decide)]; exact ⟨by trivial, by trivial⟩
  · rw [if_neg (by decide), if_pos rfl]; exact ⟨by trivial, by trivial⟩
end SP
