/-! THE CONSTRUCTORS: run by the kernel; what stands behind them. -/
def px_x0 : px_X := (0, fun _ => 0)
def px_h0 (c : Nat) : px_H := ([(c, px_nf c, List.replicate (px_nf c) none)], fun _ _ => 0, fun _ _ => 0)
/-- behind the class's constructor the reference's cell is made and its constructor run -/
def tr_c (c : px_H → Bool) : Bool := match px_run px_x0 6000 86 (px_mc 86, px_ms 86) (px_ct 86) (px_ent [.ref 0] (px_mx 86)) [] (px_h0 7) with
  | some (none, h1) => (match px_run px_x0 6000 148 (px_mc 148, px_ms 148) (px_ct 148) (px_ent [.ref 85] (px_mx 148)) [] (h1.1 ++ [(8, px_nf 8, List.replicate (px_nf 8) none)], px_clr h1.2.1 h1.1.length, h1.2.2) with
    | some (none, h2) => decide (h1.1 = pu_G.take 85) && c h2
    | _ => false)
  | _ => false
/-- the empty street -/
def se_ (t i j : Nat) : Nat := if t = 7 ∧ i = 0 then [20, 8, 6, 40].getD j 0 else 0
/-- what is read behind the constructors -/
def rs_ : List (Nat × Nat × Int32) := (List.range 7).flatMap (fun t => [(3 + 2 * t, 2, 0), (3 + 2 * t, 0, nu_i (mo_ t)), (85, t, 0), (19 + 2 * t, 0, nu_i (mo_ t)), (35 + 2 * t, 0, nu_i (mo_ t))]) ++ (List.range 4).flatMap (fun j => [(2, j, nu_i (se_ 7 0 j)), (85, 7 + j, nu_i (se_ 7 0 j))]) ++ [(0, 3, 0), (85, 51, 0), (0, 10, -1), (85, 11, -1), (66, 1, 0), (85, 49, 0)] ++ (List.range 8).flatMap (fun n => [(103, n, 0), (69 + 2 * n, 1, -1), (68, n, 0), (86, n, 0)]) ++ (List.range 70).map fun i => (110, i, nu_i (wl_.getD i 0))
theorem tr_1 : tr_c (fun h => decide (h.1 = pu_G) && rs_.all fun r => decide (h.2.1 r.1 r.2.1 = r.2.2)) = true := by decide +kernel
