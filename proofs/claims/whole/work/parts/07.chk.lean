def px_Ts : List Cond := lw_tbl.filter goodWord
def px_has (w : Cond) (i : Nat) : Bool := decide (lw_tbl[i]? = some w) && goodWord w
theorem px_has_mem {w : Cond} {i : Nat} (h : px_has w i = true) : w ∈ px_Ts := by
  simp only [px_has, Bool.and_eq_true, decide_eq_true_eq] at h
  exact List.mem_filter.mpr ⟨List.mem_of_getElem? h.1, h.2⟩
def px_host : String := "LightAlong"
def px_isN : Cond → Bool
  | .fieldLinkNest .. => true
  | .methodLinkNest .. => true
  | _ => false
/-- the words on nest mates' private members -/
def px_Tn : List Cond := lw_tbl.filter px_isN
def px_hasN (w : Cond) (i : Nat) : Bool := decide (lw_tbl[i]? = some w) && px_isN w
theorem px_hasN_mem {w : Cond} {i : Nat} (h : px_hasN w i = true) : w ∈ px_Tn := by
  simp only [px_hasN, Bool.and_eq_true, decide_eq_true_eq] at h
  exact List.mem_filter.mpr ⟨List.mem_of_getElem? h.1, h.2⟩
def px_hasB (nest : Nat) (w : Cond) (i : Nat) : Bool := if nest = 0 then px_has w i else px_hasN w i
def px_cy (a : Nat) : MethodName := if a = 9000 then objectInit else if a = 9001 then arraycopyName else if a = 9002 then Lib.Math.abs.name else if a = 9003 then Lib.Math.max.name else if a = 9004 then Lib.Math.min.name else px_y a
/-- the words of a call -/
def px_mlink (c idx a nest : Nat) : Cond := if nest = 0 then Cond.methodLink (px_cl c) idx (px_cy a) else Cond.methodLinkNest (px_cl c) idx (px_cy a) px_host
def px_mwords (a : Nat) : List Cond :=
  (if a = 9000 then [.instanceMethod (px_cy a)] else if a = 9001 then [.native (px_cy a), .static (px_cy a), .initialized "java/lang/System"]
   else if a = 9002 then [.static (px_cy a), .initialized "java/lang/Math", .code (px_cy a) Lib.Math.abs.code 1 (some .int)]
   else if a = 9003 then [.static (px_cy a), .initialized "java/lang/Math", .code (px_cy a) Lib.Math.max.code 2 (some .int)]
   else if a = 9004 then [.static (px_cy a), .initialized "java/lang/Math", .code (px_cy a) Lib.Math.min.code 2 (some .int)]
   else if px_sta a = 1 then [.static (px_cy a), .initialized (px_cy a).cls]
   else if px_ini a = 0 then [.instanceMethod (px_cy a), .selects (px_cy a).cls (px_cy a) (px_cy a), .initialized (px_cy a).cls]
   else [.instanceMethod (px_cy a), .initialized (px_cy a).cls])
def px_hasL : List Cond → List Nat → Bool
  | [], _ => true
  | _ :: _, [] => false
  | w :: ws, i :: is => px_has w i && px_hasL ws is
theorem px_hasL_mem : ∀ {ws : List Cond} {is : List Nat}, px_hasL ws is = true → ∀ w ∈ ws, w ∈ px_Ts
  | [], _, _, _, h => by cases h
  | _ :: _, [], h, _, _ => by cases h
  | w :: ws, i :: is, h, x, hx => by
    simp only [px_hasL, Bool.and_eq_true] at h
    rcases List.mem_cons.mp hx with rfl | hx
    · exact px_has_mem h.1
    · exact px_hasL_mem h.2 x hx
def px_lmc (r : Nat × Nat × Nat × Nat × List Nat) : Bool := px_hasB r.2.2.2.1 (px_mlink r.1 r.2.1 r.2.2.1 r.2.2.2.1) (r.2.2.2.2.getD 0 0) && px_hasL (px_mwords r.2.2.1) (r.2.2.2.2.drop 1) && decide (r.2.2.2.1 ≤ 1) && (decide (r.2.2.1 < 9000) || decide (r.2.2.2.1 = 0))
set_option maxRecDepth 100000 in
theorem px_LM0_ok : px_LM0.all px_lmc = true := by decide +kernel
set_option maxRecDepth 100000 in
theorem px_LM1_ok : px_LM1.all px_lmc = true := by decide +kernel
set_option maxRecDepth 100000 in
theorem px_LM2_ok : px_LM2.all px_lmc = true := by decide +kernel
set_option maxRecDepth 100000 in
theorem px_LM3_ok : px_LM3.all px_lmc = true := by decide +kernel
set_option maxRecDepth 100000 in
theorem px_LM4_ok : px_LM4.all px_lmc = true := by decide +kernel
set_option maxRecDepth 100000 in
theorem px_LM5_ok : px_LM5.all px_lmc = true := by decide +kernel
set_option maxRecDepth 100000 in
theorem px_LM6_ok : px_LM6.all px_lmc = true := by decide +kernel
set_option maxRecDepth 100000 in
theorem px_LM7_ok : px_LM7.all px_lmc = true := by decide +kernel
set_option maxRecDepth 100000 in
theorem px_LM8_ok : px_LM8.all px_lmc = true := by decide +kernel
set_option maxRecDepth 100000 in
theorem px_LM9_ok : px_LM9.all px_lmc = true := by decide +kernel
set_option maxRecDepth 100000 in
theorem px_LM10_ok : px_LM10.all px_lmc = true := by decide +kernel
set_option maxRecDepth 100000 in
theorem px_LM11_ok : px_LM11.all px_lmc = true := by decide +kernel
set_option maxRecDepth 100000 in
theorem px_LM12_ok : px_LM12.all px_lmc = true := by decide +kernel
theorem px_LM_ok : px_LM.all px_lmc = true := by
  simp only [px_LM, List.all_append, Bool.and_eq_true]
  exact ⟨px_LM0_ok, ⟨px_LM1_ok, ⟨px_LM2_ok, ⟨px_LM3_ok, ⟨px_LM4_ok, ⟨px_LM5_ok, ⟨px_LM6_ok, ⟨px_LM7_ok, ⟨px_LM8_ok, ⟨px_LM9_ok, ⟨px_LM10_ok, ⟨px_LM11_ok, px_LM12_ok⟩⟩⟩⟩⟩⟩⟩⟩⟩⟩⟩⟩
/-- fields: class and number -/
def px_T (c : Nat) : u_T := match c with
  | 0 => TX0
  | 1 => TX1
  | 2 => TX2
  | 3 => TX3
  | 4 => TX4
  | 5 => TX5
  | 6 => TX6
  | 7 => TX7
  | _ => TX8
def px_ty (c : Nat) : Nat → FieldType := match c with
  | 0 => tyX0
  | 1 => tyX1
  | 2 => tyX2
  | 3 => tyX3
  | 4 => tyX4
  | 5 => tyX5
  | 6 => tyX6
  | 7 => tyX7
  | _ => tyX8
def px_fword (own : String) (idx : Nat) (o n d : String) (nest : Nat) : Cond := if nest = 0 then .fieldLink own idx o n d else .fieldLinkNest own idx o n d px_host
def px_sf (a : Nat) : String × String × String := if a = 0 then ("java/lang/String", "value", "[B") else ("java/lang/String", "coder", "B")
set_option maxRecDepth 100000 in
theorem px_LF_ok : px_LF.all (fun r => (if r.2.2.1 = 14 then decide (r.2.2.2.1 < 2) && decide (r.2.2.2.2.1 = 0) && px_has (px_fword (px_cl r.1) r.2.1 (px_sf r.2.2.2.1).1 (px_sf r.2.2.2.1).2.1 (px_sf r.2.2.2.1).2.2 0) r.2.2.2.2.2
    else (decide (r.2.2.2.2.1 = 0) || decide (r.1 ≠ r.2.2.1)) && decide (r.2.2.1 < 9) && decide (r.2.2.2.1 < px_nf r.2.2.1) && px_hasB r.2.2.2.2.1 (px_fword (px_cl r.1) r.2.1 (px_T r.2.2.1 r.2.2.2.1).1 (px_T r.2.2.1 r.2.2.2.1).2.1 (px_T r.2.2.1 r.2.2.2.1).2.2.1 r.2.2.2.2.1) r.2.2.2.2.2)) = true := by decide +kernel
/-- statics: class, name, descriptor -/
def px_sn (a : Nat) : String × String × String := if a = 0 then ("LightAlong", "LOWEST", "[I") else if a = 1 then ("LightAlong", "HIGHEST", "[I") else if a = 2 then ("LightAlong", "NUMBERS", "[I") else if a = 3 then ("LightAlong", "LEAVES", "[I") else if a = 4 then ("java/lang/String", "COMPACT_STRINGS", "Z") else ("jdk/internal/util/Preconditions", "SIOOBE_FORMATTER", "Ljava/util/function/BiFunction;")
def px_sq (a : Nat) : Nat := if a = 2 ∨ a = 3 then 1 else 0
set_option maxRecDepth 100000 in
theorem px_LS_ok : px_LS.all (fun r => px_hasB (px_sq r.2.2.1) (px_fword (px_cl r.1) r.2.1 (px_sn r.2.2.1).1 (px_sn r.2.2.1).2.1 (px_sn r.2.2.1).2.2 (px_sq r.2.2.1)) r.2.2.2) = true := by decide +kernel
set_option maxRecDepth 100000 in
theorem px_LN_ok : px_LN.all (fun r => decide (r.2.2.1 < 9) && px_hasL [.classLink (px_cl r.1) r.2.1 (px_cl r.2.2.1), .instantiable (px_cl r.2.2.1) (px_nf r.2.2.1), .initialized (px_cl r.2.2.1)] [r.2.2.2.1, r.2.2.2.2.1, r.2.2.2.2.2]) = true := by decide +kernel
set_option maxRecDepth 100000 in
theorem px_LA_ok : px_LA.all (fun r => px_has (.classLink (px_cl r.1) r.2.1 (px_cl 3)) r.2.2) = true := by decide +kernel
def px_tx (i : Nat) : String := ["least", "even", "wide", "long", "sort", "place", "tree", "wall", "window", "shop", "pool"].getD i ""
set_option maxRecDepth 100000 in
theorem px_LK_ok : px_LK.all (fun r => decide (r.1 = 9) || (if 1000 ≤ r.2.2.1 then decide (r.1 = 7) && decide (r.2.2.1 < 1011) && decide (r.2.1 = 350 + 2 * (r.2.2.1 - 1000)) else px_has (.constant (px_cl r.1) r.2.1 r.2.2.2.1) r.2.2.2.2)) = true := by decide +kernel
set_option maxRecDepth 100000 in
theorem px_misc_ok : px_hasL [.code objectInit ⟨#[0xb1]⟩ 1 none, .constantLong "LightAlongLaw" 18 4294967295, .arrayClass .int, .arrayClass .boolean, .arrayClass .long] [110, 1573, 137, 216, 302] = true := by decide +kernel
