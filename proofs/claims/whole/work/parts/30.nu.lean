/-! NUMBERS: ints that stand for natural numbers. -/
def nu_i (a : Nat) : Int32 := Int32.ofNat a
theorem nu_lt {a b : Nat} (ha : a < 2147483648) (hb : b < 2147483648) : (nu_i a < nu_i b) = (a < b) := propext (Int32.ofNat_lt_iff_lt ha hb)
theorem nu_eq {a b : Nat} (ha : a < 2147483648) (hb : b < 2147483648) : (nu_i a = nu_i b) = (a = b) := by
  refine propext ⟨fun h => ?_, fun h => by rw [h]⟩
  have := congrArg Int32.toNatClampNeg h
  unfold nu_i at this
  rwa [Int32.toNatClampNeg_ofNat_of_lt ha, Int32.toNatClampNeg_ofNat_of_lt hb] at this
theorem nu_ix {a : Nat} (ha : a < 2147483648) : (nu_i a).toNatClampNeg = a := Int32.toNatClampNeg_ofNat_of_lt ha
theorem nu_lit (n : Nat) : (OfNat.ofNat n : Int32) = nu_i (OfNat.ofNat n) := rfl
theorem nu_ltn {a n : Nat} (ha : a < 2147483648) (hb : (OfNat.ofNat n : Nat) < 2147483648) : (nu_i a < (no_index (OfNat.ofNat n) : Int32)) = (a < OfNat.ofNat n) := nu_lt ha hb
theorem nu_nlt {a n : Nat} (ha : a < 2147483648) (hb : (OfNat.ofNat n : Nat) < 2147483648) : ((no_index (OfNat.ofNat n) : Int32) < nu_i a) = (OfNat.ofNat n < a) := nu_lt hb ha
theorem nu_eqn {a n : Nat} (ha : a < 2147483648) (hb : (OfNat.ofNat n : Nat) < 2147483648) : (nu_i a = (no_index (OfNat.ofNat n) : Int32)) = (a = OfNat.ofNat n) := nu_eq ha hb
theorem nu_lt0 {a : Nat} (ha : a < 2147483648) : (nu_i a < 0) = False := by
  have := nu_lt (a := a) (b := 0) ha (by decide)
  exact this.trans (by simp)
theorem nu_ge {x : Int32} (h : ¬ x < 0) : x = nu_i x.toNatClampNeg := (Int32.ofNat_toNatClampNeg x (Int32.not_lt.mp h)).symm
theorem nu_geb (x : Int32) : x.toNatClampNeg < 2147483648 := Int32.toNatClampNeg_lt x
theorem nu_m1 {a : Nat} (ha : a < 2147483648) : (nu_i a = -1) = False := by
  refine propext ⟨fun h => ?_, False.elim⟩
  have h1 := nu_lt0 ha
  rw [h] at h1
  exact h1.mp (by decide)
theorem nu_add (a b : Nat) : nu_i a + nu_i b = nu_i (a + b) := (Int32.ofNat_add a b).symm
theorem nu_addn (a n : Nat) : nu_i a + (no_index (OfNat.ofNat n) : Int32) = nu_i (a + OfNat.ofNat n) := nu_add a n
theorem nu_naddn (a n : Nat) : (no_index (OfNat.ofNat n) : Int32) + nu_i a = nu_i (OfNat.ofNat n + a) := nu_add n a
theorem nu_sub {a b : Nat} (h : b ≤ a) : nu_i a - nu_i b = nu_i (a - b) := (Int32.ofNat_sub a b h).symm
theorem nu_mul (a b : Nat) : nu_i a * nu_i b = nu_i (a * b) := (Int32.ofNat_mul a b).symm
theorem nu_muln (a n : Nat) : nu_i a * (no_index (OfNat.ofNat n) : Int32) = nu_i (a * OfNat.ofNat n) := nu_mul a n
theorem nu_nmul (a n : Nat) : (no_index (OfNat.ofNat n) : Int32) * nu_i a = nu_i (OfNat.ofNat n * a) := nu_mul n a
theorem nu_div {a b : Nat} (ha : a < 2147483648) (hb : b < 2147483648) : nu_i a / nu_i b = nu_i (a / b) := (Int32.ofNat_div ha hb).symm
theorem nu_divn {a n : Nat} (ha : a < 2147483648) (hb : (OfNat.ofNat n : Nat) < 2147483648) : nu_i a / (no_index (OfNat.ofNat n) : Int32) = nu_i (a / OfNat.ofNat n) := nu_div ha hb
theorem nu_in {a n : Nat} (ha : a < 2147483648) : (px_in (nu_i a) n = true) = (a < n) := by
  unfold px_in
  rw [nu_ix ha]
  simp [nu_lt0 ha]
theorem nu_inE {x : Int32} {n : Nat} (h : px_in x n = true) : ∃ a, a < n ∧ x = nu_i a := by
  have h2 := pu_in_lt h
  simp only [px_in, Bool.and_eq_true, Bool.not_eq_true', decide_eq_false_iff_not] at h
  exact ⟨_, h2, nu_ge h.1⟩
/-- the value of a lamp's cell: 0 none, s + 1 a lamp of sort s -/
def nu_l (a : Nat) : Int32 := if a = 0 then -1 else nu_i (a - 1)
theorem nu_l0 : nu_l 0 = -1 := rfl
theorem nu_lS (a : Nat) : nu_l (a + 1) = nu_i a := rfl
theorem nu_lm {a : Nat} (ha : a < 2147483648) : (nu_l a = -1) = (a = 0) := by
  unfold nu_l
  by_cases h : a = 0
  · simp [h]
  · rw [if_neg h, nu_m1 (by omega)]; simp [h]
/-- 1 where it is so, else 0 -/
def nu_b (p : Prop) [Decidable p] : Int32 := if p then 1 else 0
theorem nu_b0 (p : Prop) [Decidable p] : (nu_b p = 0) = ¬ p := by
  unfold nu_b; by_cases h : p <;> simp [h]
theorem nu_b1 (p : Prop) [Decidable p] : (nu_b p = 1) = p := by
  unfold nu_b; by_cases h : p <;> simp [h]
theorem nu_bT {p : Prop} [Decidable p] (h : p) : nu_b p = 1 := if_pos h
theorem nu_bF {p : Prop} [Decidable p] (h : ¬ p) : nu_b p = 0 := if_neg h
theorem nu_bz (p : Prop) [Decidable p] : nu_b p &&& 1 = nu_b p := by
  unfold nu_b; by_cases h : p <;> simp [h]
/-! FOLDS -/
def fo_ {α : Type} (f : Nat → α → α) : Nat → α → α
  | 0, a => a
  | n + 1, a => f n (fo_ f n a)
theorem fo_congr {α : Type} {f g : Nat → α → α} : ∀ {n : Nat} {a : α}, (∀ i, i < n → ∀ a, f i a = g i a) → fo_ f n a = fo_ g n a
  | 0, _, _ => rfl
  | n + 1, a, h => by
    show f n (fo_ f n a) = g n (fo_ g n a)
    rw [fo_congr (n := n) (a := a) (fun i hi => h i (by omega)), h n (by omega)]
theorem fo_inv {α : Type} {f : Nat → α → α} (I : Nat → α → Prop) : ∀ {n : Nat} {a : α}, I 0 a → (∀ i, i < n → ∀ a, I i a → I (i + 1) (f i a)) → I n (fo_ f n a)
  | 0, _, h, _ => h
  | n + 1, _, h, hs => hs n (by omega) _ (fo_inv I h fun i hi => hs i (by omega))
theorem fo_map {α β : Type} {f : Nat → α → α} {g : Nat → β → β} (m : α → β) : ∀ {n : Nat} {a : α}, (∀ i, i < n → ∀ a, m (f i a) = g i (m a)) → m (fo_ f n a) = fo_ g n (m a)
  | 0, _, _ => rfl
  | n + 1, a, h => by
    show m (f n (fo_ f n a)) = g n (fo_ g n (m a))
    rw [h n (by omega), fo_map (n := n) (a := a) m (fun i hi => h i (by omega))]
/-- a loop that counts up to n -/
theorem lo_up {α : Type} (W : α → Int32 → Prop) (n : Nat) (f : Nat → α → α) (Qe : α → Prop) (hs : ∀ i a, i < n → W (f i a) (nu_i (i + 1)) → W a (nu_i i)) (he : ∀ a, Qe a → W a (nu_i n)) (a : α) (h : Qe (fo_ f n a)) : W a 0 := by
  have key : ∀ j, j ≤ n → W (fo_ f j a) (nu_i j) → W a 0 := by
    intro j
    induction j with
    | zero => exact fun _ h => h
    | succ j ih => exact fun hj h => ih (by omega) (hs j _ (by omega) h)
  exact key n (Nat.le_refl n) (he _ h)
/-- the same, with what is known at each turn -/
theorem lo_upI {α : Type} (I : Nat → α → Prop) (W : α → Int32 → Prop) (n : Nat) (f : Nat → α → α) (Qe : α → Prop) (a : α) (h0 : I 0 a) (hI : ∀ i a, i < n → I i a → I (i + 1) (f i a)) (hs : ∀ i a, i < n → I i a → W (f i a) (nu_i (i + 1)) → W a (nu_i i)) (he : ∀ a, I n a → Qe a → W a (nu_i n)) (h : Qe (fo_ f n a)) : W a 0 := by
  have hi : ∀ j, j ≤ n → I j (fo_ f j a) := by
    intro j
    induction j with
    | zero => exact fun _ => h0
    | succ j ih => exact fun hj => hI j _ (by omega) (ih (by omega))
  have key : ∀ j, j ≤ n → W (fo_ f j a) (nu_i j) → W a 0 := by
    intro j
    induction j with
    | zero => exact fun _ h => h
    | succ j ih => exact fun hj h => ih (by omega) (hs j _ (by omega) (hi j (by omega)) h)
  exact key n (Nat.le_refl n) (he _ (hi n (Nat.le_refl n)) h)
/-- the first number below n at which b holds; n if there is none -/
def fi_ (b : Nat → Bool) : Nat → Nat
  | 0 => 0
  | n + 1 => if fi_ b n < n then fi_ b n else if b n = true then n else n + 1
theorem fi_le (b : Nat → Bool) (n : Nat) : fi_ b n ≤ n := by
  induction n with
  | zero => exact Nat.le_refl 0
  | succ n ih => unfold fi_; split; · omega
                 · split <;> omega
theorem fi_at (b : Nat → Bool) (n : Nat) : (fi_ b n < n → b (fi_ b n) = true) ∧ ∀ j, j < fi_ b n → b j = false := by
  induction n with
  | zero => exact ⟨fun h => absurd h (Nat.not_lt_zero _), fun j h => absurd h (Nat.not_lt_zero _)⟩
  | succ n ih =>
    have hl := fi_le b n
    unfold fi_
    split
    · rename_i h; exact ⟨fun _ => ih.1 h, ih.2⟩
    · rename_i h
      have he : fi_ b n = n := by omega
      rw [he] at ih
      split
      · rename_i hb; exact ⟨fun _ => hb, ih.2⟩
      · rename_i hb
        refine ⟨fun h => absurd h (Nat.lt_irrefl _), fun j hj => ?_⟩
        rcases Nat.lt_or_ge j n with h1 | h1
        · exact ih.2 j h1
        · have : j = n := by omega
          subst this; simpa using hb
theorem fi_congr {b c : Nat → Bool} {n : Nat} (h : ∀ i, i < n → b i = c i) : fi_ b n = fi_ c n := by
  induction n with
  | zero => rfl
  | succ n ih => unfold fi_; rw [ih fun i hi => h i (by omega), h n (by omega)]
theorem fi_eq {b : Nat → Bool} {n k : Nat} (hk : k ≤ n) (h1 : ∀ j, j < k → b j = false) (h2 : k < n → b k = true) : fi_ b n = k := by
  have ha := fi_at b n
  have hl := fi_le b n
  rcases Nat.lt_trichotomy (fi_ b n) k with h | h | h
  · have := ha.1 (by omega); rw [h1 _ h] at this; cases this
  · exact h
  · have := ha.2 k h; rw [h2 (by omega)] at this; cases this
/-- a loop that looks for the first -/
theorem lo_fi (W : Int32 → Prop) (n : Nat) (b : Nat → Bool) (hs : ∀ i, i < n → b i = false → W (nu_i (i + 1)) → W (nu_i i)) (he : W (nu_i (fi_ b n))) : W 0 := by
  have ha := fi_at b n
  have hl := fi_le b n
  have key : ∀ j, j ≤ fi_ b n → W (nu_i j) → W 0 := by
    intro j
    induction j with
    | zero => exact fun _ h => h
    | succ j ih => exact fun hj h => ih (by omega) (hs j (by omega) (ha.2 j (by omega)) h)
  exact key _ (Nat.le_refl _) he
/-- f, k times -/
def it_ {α : Type} (f : α → α) : Nat → α → α
  | 0, a => a
  | n + 1, a => f (it_ f n a)
theorem fo_it {α : Type} (f : α → α) (n : Nat) (a : α) : fo_ (fun _ => f) n a = it_ f n a := by
  induction n with
  | zero => rfl
  | succ n ih => exact congrArg f ih
/-- how many below n -/
def ct_ (b : Nat → Bool) : Nat → Nat
  | 0 => 0
  | n + 1 => if b n = true then ct_ b n + 1 else ct_ b n
theorem ct_le (b : Nat → Bool) (n : Nat) : ct_ b n ≤ n := by
  induction n with
  | zero => exact Nat.le_refl 0
  | succ n ih => unfold ct_; split <;> omega
theorem ct_congr {b c : Nat → Bool} {n : Nat} (h : ∀ i, i < n → b i = c i) : ct_ b n = ct_ c n := by
  induction n with
  | zero => rfl
  | succ n ih => unfold ct_; rw [ih fun i hi => h i (by omega), h n (by omega)]
theorem ct_it {α : Type} (b : Nat → Bool) (f : α → α) (n : Nat) (a : α) : fo_ (fun i a => if b i = true then f a else a) n a = it_ f (ct_ b n) a := by
  induction n with
  | zero => rfl
  | succ n ih =>
    show (if b n = true then f (fo_ _ n a) else fo_ _ n a) = _
    rw [ih, show ct_ b (n + 1) = (if b n = true then ct_ b n + 1 else ct_ b n) from rfl]
    by_cases h : b n = true
    · rw [if_pos h, if_pos h]; rfl
    · rw [if_neg h, if_neg h]
/-- a sum below n -/
def su_ (f : Nat → Nat) : Nat → Nat
  | 0 => 0
  | n + 1 => su_ f n + f n
theorem su_congr {f g : Nat → Nat} {n : Nat} (h : ∀ i, i < n → f i = g i) : su_ f n = su_ g n := by
  induction n with
  | zero => rfl
  | succ n ih => unfold su_; rw [ih fun i hi => h i (by omega), h n (by omega)]
theorem su_le {f : Nat → Nat} {n B : Nat} (h : ∀ i, i < n → f i ≤ B) : su_ f n ≤ n * B := by
  induction n with
  | zero => exact Nat.zero_le _
  | succ n ih =>
    unfold su_
    have h1 := ih fun i hi => h i (by omega)
    have h2 := h n (by omega)
    rw [Nat.succ_mul]; omega
theorem su_fo (f : Nat → Nat) (n : Nat) : fo_ (fun i (a : Nat) => a + f i) n 0 = su_ f n := by
  induction n with
  | zero => rfl
  | succ n ih => show fo_ _ n 0 + f n = _; rw [ih]; rfl
theorem su_foI (f : Nat → Nat) (n : Nat) : fo_ (fun i (a : Int32) => a + nu_i (f i)) n (nu_i 0) = nu_i (su_ f n) := by
  induction n with
  | zero => rfl
  | succ n ih => show fo_ _ n (nu_i 0) + nu_i (f n) = _; rw [ih, nu_add]; rfl
/-- sets: those below n that b takes, as bits -/
def bs_ (b : Nat → Bool) : Nat → Nat
  | 0 => 0
  | n + 1 => if b n = true then bs_ b n ||| 1 <<< n else bs_ b n
theorem bs_lt (b : Nat → Bool) (n : Nat) : bs_ b n < 2 ^ n := by
  induction n with
  | zero => exact Nat.one_pos
  | succ n ih =>
    have h1 : (2 : Nat) ^ n < 2 ^ (n + 1) := Nat.pow_lt_pow_right (by decide) (by omega)
    unfold bs_
    split
    · exact Nat.or_lt_two_pow (by omega) (by rw [Nat.one_shiftLeft]; exact h1)
    · omega
theorem bs_bit (b : Nat → Bool) (n p : Nat) : (bs_ b n).testBit p = (decide (p < n) && b p) := by
  induction n with
  | zero => simp [bs_]
  | succ n ih =>
    unfold bs_
    split
    · rename_i h
      rw [Nat.testBit_or, ih, Nat.one_shiftLeft, Nat.testBit_two_pow]
      by_cases hp : p = n
      · subst hp; simp [h]
      · have : (decide (p < n + 1)) = decide (p < n) := by simp; omega
        simp [this, Ne.symm hp]
    · rename_i h
      rw [ih]
      by_cases hp : p = n
      · subst hp; simp at h; simp [h]
      · have : (decide (p < n + 1)) = decide (p < n) := by simp; omega
        simp [this]
theorem bs_congr {b c : Nat → Bool} {n : Nat} (h : ∀ i, i < n → b i = c i) : bs_ b n = bs_ c n := by
  induction n with
  | zero => rfl
  | succ n ih => unfold bs_; rw [ih fun i hi => h i (by omega), h n (by omega)]
theorem bs_and (b : Nat → Bool) (n c : Nat) : bs_ b n &&& c = bs_ (fun p => b p && c.testBit p) n := by
  apply Nat.eq_of_testBit_eq
  intro p
  rw [Nat.testBit_and, bs_bit, bs_bit, Bool.and_assoc]
theorem bs_self {c n : Nat} (h : c < 2 ^ n) : bs_ (fun p => c.testBit p) n = c := by
  apply Nat.eq_of_testBit_eq
  intro p
  rw [bs_bit]
  by_cases hp : p < n
  · simp [hp]
  · have : c < 2 ^ p := Nat.lt_of_lt_of_le h (Nat.pow_le_pow_right (by decide) (by omega))
    rw [Nat.testBit_lt_two_pow this]; simp [hp]
set_option maxRecDepth 100000 in
theorem nu_inB : (List.range 512).all (fun m => (List.range 9).all fun p => decide ((nu_i m >>> (nu_i p &&& 31)) &&& 1 = nu_b (m.testBit p = true)) && decide (nu_i m ||| ((1 : Int32) <<< (nu_i p &&& 31)) = nu_i (m ||| 1 <<< p)) && decide (nu_i m &&& (((1 : Int32) <<< (nu_i p &&& 31)) ^^^ (-1 : Int32)) = nu_i (m &&& (511 ^^^ (1 <<< p))))) = true := by decide +kernel
theorem nu_inS {m p : Nat} (hm : m < 512) (hp : p < 9) : (nu_i m >>> (nu_i p &&& 31)) &&& 1 = nu_b (m.testBit p = true) := by
  have h := List.all_eq_true.mp (List.all_eq_true.mp nu_inB m (List.mem_range.mpr hm)) p (List.mem_range.mpr hp)
  simp only [Bool.and_eq_true, decide_eq_true_eq] at h
  exact h.1.1
theorem nu_orS {m p : Nat} (hm : m < 512) (hp : p < 9) : nu_i m ||| ((1 : Int32) <<< (nu_i p &&& 31)) = nu_i (m ||| 1 <<< p) := by
  have h := List.all_eq_true.mp (List.all_eq_true.mp nu_inB m (List.mem_range.mpr hm)) p (List.mem_range.mpr hp)
  simp only [Bool.and_eq_true, decide_eq_true_eq] at h
  exact h.1.2
theorem nu_noS {m p : Nat} (hm : m < 512) (hp : p < 9) : nu_i m &&& (((1 : Int32) <<< (nu_i p &&& 31)) ^^^ (-1 : Int32)) = nu_i (m &&& (511 ^^^ (1 <<< p))) := by
  have h := List.all_eq_true.mp (List.all_eq_true.mp nu_inB m (List.mem_range.mpr hm)) p (List.mem_range.mpr hp)
  simp only [Bool.and_eq_true, decide_eq_true_eq] at h
  exact h.2
theorem nu_and (a b : Nat) : nu_i a &&& nu_i b = nu_i (a &&& b) := by
  unfold nu_i
  apply Int32.toBitVec.inj
  simp [BitVec.ofNat_and]
theorem nu_shB : (List.range 10).all (fun n => decide (((1 : Int32) <<< (nu_i n &&& 31)) = nu_i (2 ^ n))) = true := by decide +kernel
theorem nu_sh {n : Nat} (hn : n < 10) : ((1 : Int32) <<< (nu_i n &&& 31)) = nu_i (2 ^ n) := by
  have h := List.all_eq_true.mp nu_shB n (List.mem_range.mpr hn)
  exact of_decide_eq_true h
/-- a loop whose state at each turn is known -/
theorem lo_ix {β : Type} (W : β → Int32 → Prop) (n : Nat) (g : Nat → β) (hs : ∀ i, i < n → W (g (i + 1)) (nu_i (i + 1)) → W (g i) (nu_i i)) (h : W (g n) (nu_i n)) : W (g 0) 0 := by
  have key : ∀ j, j ≤ n → W (g j) (nu_i j) → W (g 0) 0 := by
    intro j
    induction j with
    | zero => exact fun _ h => h
    | succ j ih => exact fun hj h => ih (by omega) (hs j (by omega) h)
  exact key n (Nat.le_refl n) h
theorem bs_512 (b : Nat → Bool) {n : Nat} (h : n ≤ 9) : bs_ b n < 512 := Nat.lt_of_lt_of_le (bs_lt b n) (show 2 ^ n ≤ 2 ^ 9 from Nat.pow_le_pow_right (by decide) h)
theorem nu_imp {p : Prop} (h : p) : p = True := eq_true h
