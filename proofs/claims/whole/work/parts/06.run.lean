def px_y (k : Nat) : MethodName := px_Y.getD k yL_law
def px_b (k : Nat) : ByteArray := px_Bs.getD k ⟨#[]⟩
def px_rt (k : Nat) : Option FieldType := px_Rt.getD k none
def px_nu (k i : Nat) : Nat := (px_Nu.getD k []).getD i 0
def px_mx (k : Nat) : Nat := px_nu k 0
def px_cn (k : Nat) : Nat := px_nu k 1
def px_ini (k : Nat) : Nat := px_nu k 2
def px_np (k : Nat) : Nat := px_nu k 3
def px_sta (k : Nat) : Nat := px_nu k 4
def px_fr (k : Nat) : Nat := px_nu k 5
def px_lo (k : Nat) : Nat := px_nu k 6
def px_mc (k : Nat) : Nat := px_nu k 7
def px_ms (k : Nat) : Nat := px_nu k 8
def px_cl (c : Nat) : String := px_Cl.getD c ""
def px_own (k : Nat) : String := px_cl (px_cn k)
def px_blk (k : Nat) : List (Nat × List px_I) := px_B.getD k []
def px_to (k t : Nat) : List px_I := ((px_blk k).lookup t).getD []
def px_ct (k : Nat) : List px_I := px_to k 0
def px_law : Nat := 260
def px_entl (vs : List Value) : List Value := vs.flatMap fun v => if v.category = 2 then [v, .null] else [v]
def px_ent (vs : List Value) (n : Nat) : List Value := px_entl vs ++ List.replicate (n - (px_entl vs).length) .null
def px_rti (ret : Option FieldType) (y : Int32) : Bool := match ret with
  | some .int => true
  | some .boolean => decide (y &&& 1 = y)
  | some t => decide (narrow t (.int y) = .int y)
  | none => false
def px_rta (ret : Option FieldType) : Bool := match ret with
  | some (.object _) => true
  | some (.array _) => true
  | _ => false
def px_sum (st : List Value) : Nat := (st.map fun v => v.category).sum
/-- the receiver is of the method's class -/
def px_rcv (j : Nat) (G : List px_S) (v : Value) : Bool := match v with
  | .ref q => if q < 1000 then (match G[q]? with
      | some (t, _, _) => decide (t = px_cn j) && decide (t < 9)
      | none => false) else decide (px_cn j = 14) && decide (q < 1011)
  | _ => false
/-- whether a call may be: kd 0 invokevirtual, 1 invokestatic, 2 invokespecial -/
def px_cok (kd a b : Nat) (rem : Nat × Nat) (L st : List Value) (G : List px_S) : Bool :=
  decide (a < px_law) && decide (a < 248 ∨ 250 < a) && decide (b ≤ st.length) && decide (b = px_np a + (1 - px_sta a)) && decide (px_sta a = if kd = 1 then 1 else 0) && decide (px_sum (st.drop b) ≤ 8) &&
  decide (px_mc a ≤ rem.1) && decide (px_ms a ≤ rem.2) && (decide (px_mc a = 0) || px_tidy G L (st.drop b)) && (decide (kd = 1) || px_rcv a G ((st.take b).reverse.headD .null)) && decide (kd = 2 ↔ 0 < px_ini a) && decide ((px_entl (st.take b).reverse).length ≤ px_mx a)
/-- a copy: src, sp, dst, dp, n; behind it the cells -/
def px_cpy (G : List px_S) (h : (Nat → Nat → Int32) × (Nat → Nat → Int64)) (src dst : Nat) (sp dp n : Int32) : Option ((Nat → Nat → Int32) × (Nat → Nat → Int64)) := match G[src]? with
  | some (t0, n0, _) => (match G[dst]? with
    | some (t1, n1, _) => if t0 = t1 ∧ src < 1000 ∧ dst < 1000 ∧ ¬ sp < 0 ∧ ¬ dp < 0 ∧ ¬ n < 0 ∧ sp.toNatClampNeg + n.toNatClampNeg ≤ n0 ∧ dp.toNatClampNeg + n.toNatClampNeg ≤ n1 then
        (if t0 = 100 then some (px_row h.1 dst (va_cpy (h.1 src) (h.1 dst) sp.toNatClampNeg dp.toNatClampNeg n.toNatClampNeg), h.2)
         else if t0 = 102 then some (h.1, px_rowL h.2 dst (va_cpy (h.2 src) (h.2 dst) sp.toNatClampNeg dp.toNatClampNeg n.toNatClampNeg)) else none) else none
    | none => none)
  | none => none
def px_run (X : px_X) : Nat → Nat → Nat × Nat → List px_I → List Value → List Value → px_H → Option (Option Value × px_H)
  | 0, _, _, _, _, _, _ => none
  | _ + 1, _, _, [], _, _, _ => none
  | N + 1, k, rem, (pc, i, len, a, b, v) :: suf, L, st, h =>
    let call (kd : Nat) : Option (Option Value × px_H) :=
      if px_cok kd a b rem L st h.1 = true then
        (match px_run X N a (px_mc a, px_ms a) (px_ct a) (px_ent (st.take b).reverse (px_mx a)) [] h with
        | some (r, h') => if (if px_mc a = 0 then decide (h'.1.length = h.1.length) else decide (h'.1.length ≤ 1000)) = true then px_run X N k (rem.1 - px_mc a, rem.2 - px_ms a) suf L (r.toList ++ st.drop b) h' else none
        | none => none) else none
    match i with
    | .ireturn => (match st with | [.int y] => if px_rti (px_rt k) y = true then some (some (.int y), h) else none | _ => none)
    | .lreturn => (match st with | [.long y] => if px_rt k = some .long then some (some (.long y), h) else none | _ => none)
    | .areturn => (match st with | [.ref y] => if px_rta (px_rt k) = true then some (some (.ref y), h) else none | _ => none)
    | .return_ => (match st with | [] => if px_rt k = none then some (none, h) else none | _ => none)
    | .invokevirtual _ => call 0
    | .invokestatic _ => if a = 9001 then (match st with
        | .int n :: .int dp :: .ref dst :: .int sp :: .ref src :: st => if px_sum st ≤ 8 then (match px_cpy h.1 h.2 src dst sp dp n with | some de => px_run X N k rem suf L st (h.1, de) | none => none) else none
        | _ => none) else if a = 9002 then (match st with
        | .int x :: st => if px_sum st ≤ 8 then px_run X N k rem suf L (.int (if 0 ≤ x then x else 0 - x) :: st) h else none
        | _ => none) else if a = 9003 then (match st with
        | .int y :: .int x :: st => if px_sum st ≤ 8 then px_run X N k rem suf L (.int (if x < y then y else x) :: st) h else none
        | _ => none) else if a = 9004 then (match st with
        | .int y :: .int x :: st => if px_sum st ≤ 8 then px_run X N k rem suf L (.int (if y < x then y else x) :: st) h else none
        | _ => none) else call 1
    | .invokespecial _ => if a = 9000 then (match st with | .ref _ :: st => if px_sum st ≤ 8 then px_run X N k rem suf L st h else none | _ => none) else call 2
    | i => (match px_step X (px_ini k) rem pc i a b v L st h with
      | some (none, L, st', h) => px_run X N k (px_remN rem i a st) suf L st' h
      | some (some t, L, st', h) => px_run X N k (px_remN rem i a st) (px_to k t) L st' h
      | none => none)
