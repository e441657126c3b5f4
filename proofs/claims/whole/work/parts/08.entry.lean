/-! WHAT EACH INSTRUCTION'S ENTRY PROMISES, and that every block keeps it. -/
def px_lk3 (c idx a : Nat) : Bool := px_LM.any fun r => decide (r.1 = c) && decide (r.2.1 = idx) && decide (r.2.2.1 = a)
def px_inv (k kd a idx n : Nat) : Bool := decide (n = 3) && (decide (a = 9999) || (px_lk3 (px_cn k) idx a && (if a < 260 then decide (px_fr a + 1 ≤ px_fr k) && decide (8 + (px_mx a + 11) + px_lo a ≤ px_lo k) else if a = 9000 then decide (kd = 2) && decide (1 ≤ px_fr k) && decide (20 ≤ px_lo k) else decide (9001 ≤ a) && decide (a ≤ 9004) && decide (kd = 1) && decide (1 ≤ px_fr k) && decide (26 ≤ px_lo k))))
def px_atag (t : ArrayType) : Nat := match t with
  | .int => 100
  | .boolean => 101
  | .long => 102
  | _ => 99
def px_len (i : Instr) : Nat := match i with
  | .bipush _ | .iload _ | .lload _ | .aload _ | .istore _ | .lstore _ | .astore _ | .ldc _ | .newarray _ => 2
  | .sipush _ | .iinc _ _ | .goto _ | .ifCond _ _ | .if_icmp _ _ | .getfield _ | .putfield _ | .getstatic _ | .new _ | .anewarray _ | .ldc_w _ | .ldc2_w _ | .invokevirtual _ | .invokestatic _ | .invokespecial _ => 3
  | _ => 1
def px_chk2 (k pc : Nat) (i : Instr) (n a b : Nat) (v : Int32) : Bool := match i with
  | .iconst z => decide (Int32.ofInt z = v)
  | .bipush z => decide ((Int8.ofInt z).toInt32 = v)
  | .sipush z => decide ((Int16.ofInt z).toInt32 = v)
  | .ldc idx => px_LK.any fun r => decide (r.1 = px_cn k) && decide (r.2.1 = idx) && decide (r.2.2.1 = a) && decide (r.2.2.2.1 = v) && decide (r.1 ≠ 9)
  | .ldc_w idx => px_LK.any fun r => decide (r.1 = px_cn k) && decide (r.2.1 = idx) && decide (r.2.2.1 = a) && decide (r.2.2.2.1 = v) && decide (r.1 ≠ 9)
  | .ldc2_w idx => decide (px_cn k = 9) && decide (idx = 18)
  | .iload i => decide (i = a)
  | .lload i => decide (i = a)
  | .aload i => decide (i = a)
  | .istore i => decide (i = a) && decide (a < px_mx k)
  | .lstore i => decide (i = a) && decide (a + 1 < px_mx k)
  | .astore i => decide (i = a) && decide (a < px_mx k)
  | .iload_n i => decide (i.val = a)
  | .lload_n i => decide (i.val = a)
  | .aload_n i => decide (i.val = a)
  | .istore_n i => decide (i.val = a) && decide (a < px_mx k)
  | .lstore_n i => decide (i.val = a) && decide (a + 1 < px_mx k)
  | .astore_n i => decide (i.val = a) && decide (a < px_mx k)
  | .iinc i z => decide (i = a) && decide (a < px_mx k) && decide (Int32.ofInt z = v)
  | .goto o => decide ((pc : Int) + o = (a : Int))
  | .ifCond _ o => decide ((pc : Int) + o = (a : Int))
  | .if_icmp _ o => decide ((pc : Int) + o = (a : Int))
  | .tableswitch d _ _ os => decide (0 ≤ (pc : Int) + d) && os.toList.all fun o => decide (0 ≤ (pc : Int) + o)
  | .lookupswitch _ ps => (ps.toList.zip (ps.toList.drop 1)).all (fun (a, next) => a.1 < next.1)
  | .getfield idx => px_LF.any fun r => decide (r.1 = px_cn k) && decide (r.2.1 = idx) && decide (r.2.2.1 = a) && decide (r.2.2.2.1 = b)
  | .putfield idx => px_LF.any fun r => decide (r.1 = px_cn k) && decide (r.2.1 = idx) && decide (r.2.2.1 = a) && decide (r.2.2.2.1 = b)
  | .getstatic idx => px_LS.any fun r => decide (r.1 = px_cn k) && decide (r.2.1 = idx) && decide (r.2.2.1 = a)
  | .new idx => decide (9 ≤ a) || px_LN.any fun r => decide (r.1 = px_cn k) && decide (r.2.1 = idx) && decide (r.2.2.1 = a)
  | .newarray t => decide (px_atag t = a)
  | .anewarray idx => px_LA.any fun r => decide (r.1 = px_cn k) && decide (r.2.1 = idx)
  | .invokevirtual idx => px_inv k 0 a idx n
  | .invokestatic idx => px_inv k 1 a idx n
  | .invokespecial idx => px_inv k 2 a idx n
  | _ => true
def px_chk (k : Nat) (x : px_I) : Bool := match x with
  | (pc, i, n, a, b, v) => decide (decode (px_b k) pc = .ok (i, n)) && px_chk2 k pc i n a b v && (match i with
    | .tableswitch .. => true
    | .lookupswitch .. => true
    | i => decide (n = px_len i))
def px_chain : List px_I → Bool
  | [] => true
  | x :: s => (match s with
    | [] => true
    | y :: _ => (match x.2.1 with
      | .tableswitch .. => true
      | .lookupswitch .. => true
      | _ => decide (y.1 = x.1 + x.2.2.1))) && px_chain s
def px_fine (k : Nat) (s : List px_I) : Prop := (∀ x ∈ s, px_chk k x = true) ∧ px_chain s = true
theorem px_fine_nil (k : Nat) : px_fine k [] := ⟨fun _ h => absurd h List.not_mem_nil, rfl⟩
def px_fineB (k : Nat) : Nat → List px_I → Bool
  | 0, _ => true
  | _ + 1, [] => false
  | n + 1, x :: s => px_chk k x && (match s with
    | [] => true
    | y :: _ => (match x.2.1 with
      | .tableswitch .. => true
      | .lookupswitch .. => true
      | _ => decide (y.1 = x.1 + x.2.2.1))) && px_fineB k n s
theorem px_fine_add {k : Nat} : ∀ {n : Nat} {s t : List px_I}, px_fineB k n s = true → s.drop n = t → px_fine k t → px_fine k s
  | 0, _, _, _, ht, h => by rw [List.drop_zero] at ht; rw [ht]; exact h
  | _ + 1, [], _, hb, _, _ => by cases hb
  | n + 1, x :: s, t, hb, ht, h => by
    simp only [px_fineB, Bool.and_eq_true] at hb
    have ih := px_fine_add (n := n) (s := s) (t := t) hb.2 ht h
    refine ⟨fun y hy => ?_, ?_⟩
    · rcases List.mem_cons.mp hy with rfl | hy
      · exact hb.1.1
      · exact ih.1 y hy
    · simp only [px_chain, Bool.and_eq_true]
      exact ⟨hb.1.2, ih.2⟩
theorem px_fine_tail {k : Nat} {x : px_I} {s : List px_I} (h : px_fine k (x :: s)) : px_fine k s := by
  refine ⟨fun y hy => h.1 y (List.mem_cons_of_mem _ hy), ?_⟩
  have h2 := h.2
  simp only [px_chain, Bool.and_eq_true] at h2
  exact h2.2
