/-! CALLS: the methods' own facts, contracts, and the whole run. -/
def px_hdB (k : Nat) : Bool := (decide (248 ≤ k) && decide (k ≤ 250)) || px_has (.initialized (px_own k)) (px_LC.getD k (0, 0)).2 && decide ((px_y k).cls = px_own k) && plainName (px_own k) &&
  decide (px_own k ≠ "java/lang/invoke/MethodHandle") && decide (px_own k ≠ "java/lang/invoke/VarHandle") && decide ((parseMethodDescriptor (px_y k).desc).map (fun d => d.parameters.length) = some (px_np k)) && decide (0 < px_ini k ↔ (px_y k).name = "<init>") && decide (px_ini k = 0 ∨ px_ini k = px_cn k + 1) && decide (px_sta k ≤ 1)
def px_hdR (a n : Nat) : Bool := (List.range n).all fun i => px_hdB (a + i)
set_option maxRecDepth 100000 in
theorem px_hd0 : px_hdR 0 50 = true := by decide +kernel
set_option maxRecDepth 100000 in
theorem px_hd1 : px_hdR 50 50 = true := by decide +kernel
set_option maxRecDepth 100000 in
theorem px_hd2 : px_hdR 100 50 = true := by decide +kernel
set_option maxRecDepth 100000 in
theorem px_hd3 : px_hdR 150 50 = true := by decide +kernel
set_option maxRecDepth 100000 in
theorem px_hd4 : px_hdR 200 60 = true := by decide +kernel
theorem px_hdR_of {a n k : Nat} (h : px_hdR a n = true) (h1 : a ≤ k) (h2 : k < a + n) : px_hdB k = true := by
  have := List.all_eq_true.mp h (k - a) (List.mem_range.mpr (by omega))
  rw [show a + (k - a) = k by omega] at this
  exact this
theorem px_hd {k : Nat} (h : k < px_law) : px_hdB k = true := by
  have h' : k < 260 := h
  rcases (show k < 50 ∨ (50 ≤ k ∧ k < 100) ∨ (100 ≤ k ∧ k < 150) ∨ (150 ≤ k ∧ k < 200) ∨ (200 ≤ k ∧ k < 260) by omega) with h | h | h | h | h
  · exact px_hdR_of px_hd0 (by omega) (by omega)
  · exact px_hdR_of px_hd1 (by omega) (by omega)
  · exact px_hdR_of px_hd2 (by omega) (by omega)
  · exact px_hdR_of px_hd3 (by omega) (by omega)
  · exact px_hdR_of px_hd4 (by omega) (by omega)
def px_hcP (k : Nat) : Prop := lw_tbl[(px_LC.getD k (0, 0)).1]? = some (.code (px_y k) (px_b k) (px_mx k) (px_rt k))
set_option maxRecDepth 20000 in
theorem px_hc0 : px_hcP 0 := rfl
set_option maxRecDepth 20000 in
theorem px_hc1 : px_hcP 1 := rfl
set_option maxRecDepth 20000 in
theorem px_hc2 : px_hcP 2 := rfl
set_option maxRecDepth 20000 in
theorem px_hc3 : px_hcP 3 := rfl
set_option maxRecDepth 20000 in
theorem px_hc4 : px_hcP 4 := rfl
set_option maxRecDepth 20000 in
theorem px_hc5 : px_hcP 5 := rfl
set_option maxRecDepth 20000 in
theorem px_hc6 : px_hcP 6 := rfl
set_option maxRecDepth 20000 in
theorem px_hc7 : px_hcP 7 := rfl
set_option maxRecDepth 20000 in
theorem px_hc8 : px_hcP 8 := rfl
set_option maxRecDepth 20000 in
theorem px_hc9 : px_hcP 9 := rfl
set_option maxRecDepth 20000 in
theorem px_hc10 : px_hcP 10 := rfl
set_option maxRecDepth 20000 in
theorem px_hc11 : px_hcP 11 := rfl
set_option maxRecDepth 20000 in
theorem px_hc12 : px_hcP 12 := rfl
set_option maxRecDepth 20000 in
theorem px_hc13 : px_hcP 13 := rfl
set_option maxRecDepth 20000 in
theorem px_hc14 : px_hcP 14 := rfl
set_option maxRecDepth 20000 in
theorem px_hc15 : px_hcP 15 := rfl
set_option maxRecDepth 20000 in
theorem px_hc16 : px_hcP 16 := rfl
set_option maxRecDepth 20000 in
theorem px_hc17 : px_hcP 17 := rfl
set_option maxRecDepth 20000 in
theorem px_hc18 : px_hcP 18 := rfl
set_option maxRecDepth 20000 in
theorem px_hc19 : px_hcP 19 := rfl
set_option maxRecDepth 20000 in
theorem px_hc20 : px_hcP 20 := rfl
set_option maxRecDepth 20000 in
theorem px_hc21 : px_hcP 21 := rfl
set_option maxRecDepth 20000 in
theorem px_hc22 : px_hcP 22 := rfl
set_option maxRecDepth 20000 in
theorem px_hc23 : px_hcP 23 := rfl
set_option maxRecDepth 20000 in
theorem px_hc24 : px_hcP 24 := rfl
set_option maxRecDepth 20000 in
theorem px_hc25 : px_hcP 25 := rfl
set_option maxRecDepth 20000 in
theorem px_hc26 : px_hcP 26 := rfl
set_option maxRecDepth 20000 in
theorem px_hc27 : px_hcP 27 := rfl
set_option maxRecDepth 20000 in
theorem px_hc28 : px_hcP 28 := rfl
set_option maxRecDepth 20000 in
theorem px_hc29 : px_hcP 29 := rfl
set_option maxRecDepth 20000 in
theorem px_hc30 : px_hcP 30 := rfl
set_option maxRecDepth 20000 in
theorem px_hc31 : px_hcP 31 := rfl
set_option maxRecDepth 20000 in
theorem px_hc32 : px_hcP 32 := rfl
set_option maxRecDepth 20000 in
theorem px_hc33 : px_hcP 33 := rfl
set_option maxRecDepth 20000 in
theorem px_hc34 : px_hcP 34 := rfl
set_option maxRecDepth 20000 in
theorem px_hc35 : px_hcP 35 := rfl
set_option maxRecDepth 20000 in
theorem px_hc36 : px_hcP 36 := rfl
set_option maxRecDepth 20000 in
theorem px_hc37 : px_hcP 37 := rfl
set_option maxRecDepth 20000 in
theorem px_hc38 : px_hcP 38 := rfl
set_option maxRecDepth 20000 in
theorem px_hc39 : px_hcP 39 := rfl
set_option maxRecDepth 20000 in
theorem px_hc40 : px_hcP 40 := rfl
set_option maxRecDepth 20000 in
theorem px_hc41 : px_hcP 41 := rfl
set_option maxRecDepth 20000 in
theorem px_hc42 : px_hcP 42 := rfl
set_option maxRecDepth 20000 in
theorem px_hc43 : px_hcP 43 := rfl
set_option maxRecDepth 20000 in
theorem px_hc44 : px_hcP 44 := rfl
set_option maxRecDepth 20000 in
theorem px_hc45 : px_hcP 45 := rfl
set_option maxRecDepth 20000 in
theorem px_hc46 : px_hcP 46 := rfl
set_option maxRecDepth 20000 in
theorem px_hc47 : px_hcP 47 := rfl
set_option maxRecDepth 20000 in
theorem px_hc48 : px_hcP 48 := rfl
set_option maxRecDepth 20000 in
theorem px_hc49 : px_hcP 49 := rfl
set_option maxRecDepth 20000 in
theorem px_hc50 : px_hcP 50 := rfl
set_option maxRecDepth 20000 in
theorem px_hc51 : px_hcP 51 := rfl
set_option maxRecDepth 20000 in
theorem px_hc52 : px_hcP 52 := rfl
set_option maxRecDepth 20000 in
theorem px_hc53 : px_hcP 53 := rfl
set_option maxRecDepth 20000 in
theorem px_hc54 : px_hcP 54 := rfl
set_option maxRecDepth 20000 in
theorem px_hc55 : px_hcP 55 := rfl
set_option maxRecDepth 20000 in
theorem px_hc56 : px_hcP 56 := rfl
set_option maxRecDepth 20000 in
theorem px_hc57 : px_hcP 57 := rfl
set_option maxRecDepth 20000 in
theorem px_hc58 : px_hcP 58 := rfl
set_option maxRecDepth 20000 in
theorem px_hc59 : px_hcP 59 := rfl
set_option maxRecDepth 20000 in
theorem px_hc60 : px_hcP 60 := rfl
set_option maxRecDepth 20000 in
theorem px_hc61 : px_hcP 61 := rfl
set_option maxRecDepth 20000 in
theorem px_hc62 : px_hcP 62 := rfl
set_option maxRecDepth 20000 in
theorem px_hc63 : px_hcP 63 := rfl
set_option maxRecDepth 20000 in
theorem px_hc64 : px_hcP 64 := rfl
set_option maxRecDepth 20000 in
theorem px_hc65 : px_hcP 65 := rfl
set_option maxRecDepth 20000 in
theorem px_hc66 : px_hcP 66 := rfl
set_option maxRecDepth 20000 in
theorem px_hc67 : px_hcP 67 := rfl
set_option maxRecDepth 20000 in
theorem px_hc68 : px_hcP 68 := rfl
set_option maxRecDepth 20000 in
theorem px_hc69 : px_hcP 69 := rfl
set_option maxRecDepth 20000 in
theorem px_hc70 : px_hcP 70 := rfl
set_option maxRecDepth 20000 in
theorem px_hc71 : px_hcP 71 := rfl
set_option maxRecDepth 20000 in
theorem px_hc72 : px_hcP 72 := rfl
set_option maxRecDepth 20000 in
theorem px_hc73 : px_hcP 73 := rfl
set_option maxRecDepth 20000 in
theorem px_hc74 : px_hcP 74 := rfl
set_option maxRecDepth 20000 in
theorem px_hc75 : px_hcP 75 := rfl
set_option maxRecDepth 20000 in
theorem px_hc76 : px_hcP 76 := rfl
set_option maxRecDepth 20000 in
theorem px_hc77 : px_hcP 77 := rfl
set_option maxRecDepth 20000 in
theorem px_hc78 : px_hcP 78 := rfl
set_option maxRecDepth 20000 in
theorem px_hc79 : px_hcP 79 := rfl
set_option maxRecDepth 20000 in
theorem px_hc80 : px_hcP 80 := rfl
set_option maxRecDepth 20000 in
theorem px_hc81 : px_hcP 81 := rfl
set_option maxRecDepth 20000 in
theorem px_hc82 : px_hcP 82 := rfl
set_option maxRecDepth 20000 in
theorem px_hc83 : px_hcP 83 := rfl
set_option maxRecDepth 20000 in
theorem px_hc84 : px_hcP 84 := rfl
set_option maxRecDepth 20000 in
theorem px_hc85 : px_hcP 85 := rfl
set_option maxRecDepth 20000 in
theorem px_hc86 : px_hcP 86 := rfl
set_option maxRecDepth 20000 in
theorem px_hc87 : px_hcP 87 := rfl
set_option maxRecDepth 20000 in
theorem px_hc88 : px_hcP 88 := rfl
set_option maxRecDepth 20000 in
theorem px_hc89 : px_hcP 89 := rfl
set_option maxRecDepth 20000 in
theorem px_hc90 : px_hcP 90 := rfl
set_option maxRecDepth 20000 in
theorem px_hc91 : px_hcP 91 := rfl
set_option maxRecDepth 20000 in
theorem px_hc92 : px_hcP 92 := rfl
set_option maxRecDepth 20000 in
theorem px_hc93 : px_hcP 93 := rfl
set_option maxRecDepth 20000 in
theorem px_hc94 : px_hcP 94 := rfl
set_option maxRecDepth 20000 in
theorem px_hc95 : px_hcP 95 := rfl
set_option maxRecDepth 20000 in
theorem px_hc96 : px_hcP 96 := rfl
set_option maxRecDepth 20000 in
theorem px_hc97 : px_hcP 97 := rfl
set_option maxRecDepth 20000 in
theorem px_hc98 : px_hcP 98 := rfl
set_option maxRecDepth 20000 in
theorem px_hc99 : px_hcP 99 := rfl
set_option maxRecDepth 20000 in
theorem px_hc100 : px_hcP 100 := rfl
set_option maxRecDepth 20000 in
theorem px_hc101 : px_hcP 101 := rfl
set_option maxRecDepth 20000 in
theorem px_hc102 : px_hcP 102 := rfl
set_option maxRecDepth 20000 in
theorem px_hc103 : px_hcP 103 := rfl
set_option maxRecDepth 20000 in
theorem px_hc104 : px_hcP 104 := rfl
set_option maxRecDepth 20000 in
theorem px_hc105 : px_hcP 105 := rfl
set_option maxRecDepth 20000 in
theorem px_hc106 : px_hcP 106 := rfl
set_option maxRecDepth 20000 in
theorem px_hc107 : px_hcP 107 := rfl
set_option maxRecDepth 20000 in
theorem px_hc108 : px_hcP 108 := rfl
set_option maxRecDepth 20000 in
theorem px_hc109 : px_hcP 109 := rfl
set_option maxRecDepth 20000 in
theorem px_hc110 : px_hcP 110 := rfl
set_option maxRecDepth 20000 in
theorem px_hc111 : px_hcP 111 := rfl
set_option maxRecDepth 20000 in
theorem px_hc112 : px_hcP 112 := rfl
set_option maxRecDepth 20000 in
theorem px_hc113 : px_hcP 113 := rfl
set_option maxRecDepth 20000 in
theorem px_hc114 : px_hcP 114 := rfl
set_option maxRecDepth 20000 in
theorem px_hc115 : px_hcP 115 := rfl
set_option maxRecDepth 20000 in
theorem px_hc116 : px_hcP 116 := rfl
set_option maxRecDepth 20000 in
theorem px_hc117 : px_hcP 117 := rfl
set_option maxRecDepth 20000 in
theorem px_hc118 : px_hcP 118 := rfl
set_option maxRecDepth 20000 in
theorem px_hc119 : px_hcP 119 := rfl
set_option maxRecDepth 20000 in
theorem px_hc120 : px_hcP 120 := rfl
set_option maxRecDepth 20000 in
theorem px_hc121 : px_hcP 121 := rfl
set_option maxRecDepth 20000 in
theorem px_hc122 : px_hcP 122 := rfl
set_option maxRecDepth 20000 in
theorem px_hc123 : px_hcP 123 := rfl
set_option maxRecDepth 20000 in
theorem px_hc124 : px_hcP 124 := rfl
set_option maxRecDepth 20000 in
theorem px_hc125 : px_hcP 125 := rfl
set_option maxRecDepth 20000 in
theorem px_hc126 : px_hcP 126 := rfl
set_option maxRecDepth 20000 in
theorem px_hc127 : px_hcP 127 := rfl
set_option maxRecDepth 20000 in
theorem px_hc128 : px_hcP 128 := rfl
set_option maxRecDepth 20000 in
theorem px_hc129 : px_hcP 129 := rfl
set_option maxRecDepth 20000 in
theorem px_hc130 : px_hcP 130 := rfl
set_option maxRecDepth 20000 in
theorem px_hc131 : px_hcP 131 := rfl
set_option maxRecDepth 20000 in
theorem px_hc132 : px_hcP 132 := rfl
set_option maxRecDepth 20000 in
theorem px_hc133 : px_hcP 133 := rfl
set_option maxRecDepth 20000 in
theorem px_hc134 : px_hcP 134 := rfl
set_option maxRecDepth 20000 in
theorem px_hc135 : px_hcP 135 := rfl
set_option maxRecDepth 20000 in
theorem px_hc136 : px_hcP 136 := rfl
set_option maxRecDepth 20000 in
theorem px_hc137 : px_hcP 137 := rfl
set_option maxRecDepth 20000 in
theorem px_hc138 : px_hcP 138 := rfl
set_option maxRecDepth 20000 in
theorem px_hc139 : px_hcP 139 := rfl
set_option maxRecDepth 20000 in
theorem px_hc140 : px_hcP 140 := rfl
set_option maxRecDepth 20000 in
theorem px_hc141 : px_hcP 141 := rfl
set_option maxRecDepth 20000 in
theorem px_hc142 : px_hcP 142 := rfl
set_option maxRecDepth 20000 in
theorem px_hc143 : px_hcP 143 := rfl
set_option maxRecDepth 20000 in
theorem px_hc144 : px_hcP 144 := rfl
set_option maxRecDepth 20000 in
theorem px_hc145 : px_hcP 145 := rfl
set_option maxRecDepth 20000 in
theorem px_hc146 : px_hcP 146 := rfl
set_option maxRecDepth 20000 in
theorem px_hc147 : px_hcP 147 := rfl
set_option maxRecDepth 20000 in
theorem px_hc148 : px_hcP 148 := rfl
set_option maxRecDepth 20000 in
theorem px_hc149 : px_hcP 149 := rfl
set_option maxRecDepth 20000 in
theorem px_hc150 : px_hcP 150 := rfl
set_option maxRecDepth 20000 in
theorem px_hc151 : px_hcP 151 := rfl
set_option maxRecDepth 20000 in
theorem px_hc152 : px_hcP 152 := rfl
set_option maxRecDepth 20000 in
theorem px_hc153 : px_hcP 153 := rfl
set_option maxRecDepth 20000 in
theorem px_hc154 : px_hcP 154 := rfl
set_option maxRecDepth 20000 in
theorem px_hc155 : px_hcP 155 := rfl
set_option maxRecDepth 20000 in
theorem px_hc156 : px_hcP 156 := rfl
set_option maxRecDepth 20000 in
theorem px_hc157 : px_hcP 157 := rfl
set_option maxRecDepth 20000 in
theorem px_hc158 : px_hcP 158 := rfl
set_option maxRecDepth 20000 in
theorem px_hc159 : px_hcP 159 := rfl
set_option maxRecDepth 20000 in
theorem px_hc160 : px_hcP 160 := rfl
set_option maxRecDepth 20000 in
theorem px_hc161 : px_hcP 161 := rfl
set_option maxRecDepth 20000 in
theorem px_hc162 : px_hcP 162 := rfl
set_option maxRecDepth 20000 in
theorem px_hc163 : px_hcP 163 := rfl
set_option maxRecDepth 20000 in
theorem px_hc164 : px_hcP 164 := rfl
set_option maxRecDepth 20000 in
theorem px_hc165 : px_hcP 165 := rfl
set_option maxRecDepth 20000 in
theorem px_hc166 : px_hcP 166 := rfl
set_option maxRecDepth 20000 in
theorem px_hc167 : px_hcP 167 := rfl
set_option maxRecDepth 20000 in
theorem px_hc168 : px_hcP 168 := rfl
set_option maxRecDepth 20000 in
theorem px_hc169 : px_hcP 169 := rfl
set_option maxRecDepth 20000 in
theorem px_hc170 : px_hcP 170 := rfl
set_option maxRecDepth 20000 in
theorem px_hc171 : px_hcP 171 := rfl
set_option maxRecDepth 20000 in
theorem px_hc172 : px_hcP 172 := rfl
set_option maxRecDepth 20000 in
theorem px_hc173 : px_hcP 173 := rfl
set_option maxRecDepth 20000 in
theorem px_hc174 : px_hcP 174 := rfl
set_option maxRecDepth 20000 in
theorem px_hc175 : px_hcP 175 := rfl
set_option maxRecDepth 20000 in
theorem px_hc176 : px_hcP 176 := rfl
set_option maxRecDepth 20000 in
theorem px_hc177 : px_hcP 177 := rfl
set_option maxRecDepth 20000 in
theorem px_hc178 : px_hcP 178 := rfl
set_option maxRecDepth 20000 in
theorem px_hc179 : px_hcP 179 := rfl
set_option maxRecDepth 20000 in
theorem px_hc180 : px_hcP 180 := rfl
set_option maxRecDepth 20000 in
theorem px_hc181 : px_hcP 181 := rfl
set_option maxRecDepth 20000 in
theorem px_hc182 : px_hcP 182 := rfl
set_option maxRecDepth 20000 in
theorem px_hc183 : px_hcP 183 := rfl
set_option maxRecDepth 20000 in
theorem px_hc184 : px_hcP 184 := rfl
set_option maxRecDepth 20000 in
theorem px_hc185 : px_hcP 185 := rfl
set_option maxRecDepth 20000 in
theorem px_hc186 : px_hcP 186 := rfl
set_option maxRecDepth 20000 in
theorem px_hc187 : px_hcP 187 := rfl
set_option maxRecDepth 20000 in
theorem px_hc188 : px_hcP 188 := rfl
set_option maxRecDepth 20000 in
theorem px_hc189 : px_hcP 189 := rfl
set_option maxRecDepth 20000 in
theorem px_hc190 : px_hcP 190 := rfl
set_option maxRecDepth 20000 in
theorem px_hc191 : px_hcP 191 := rfl
set_option maxRecDepth 20000 in
theorem px_hc192 : px_hcP 192 := rfl
set_option maxRecDepth 20000 in
theorem px_hc193 : px_hcP 193 := rfl
set_option maxRecDepth 20000 in
theorem px_hc194 : px_hcP 194 := rfl
set_option maxRecDepth 20000 in
theorem px_hc195 : px_hcP 195 := rfl
set_option maxRecDepth 20000 in
theorem px_hc196 : px_hcP 196 := rfl
set_option maxRecDepth 20000 in
theorem px_hc197 : px_hcP 197 := rfl
set_option maxRecDepth 20000 in
theorem px_hc198 : px_hcP 198 := rfl
set_option maxRecDepth 20000 in
theorem px_hc199 : px_hcP 199 := rfl
set_option maxRecDepth 20000 in
theorem px_hc200 : px_hcP 200 := rfl
set_option maxRecDepth 20000 in
theorem px_hc201 : px_hcP 201 := rfl
set_option maxRecDepth 20000 in
theorem px_hc202 : px_hcP 202 := rfl
set_option maxRecDepth 20000 in
theorem px_hc203 : px_hcP 203 := rfl
set_option maxRecDepth 20000 in
theorem px_hc204 : px_hcP 204 := rfl
set_option maxRecDepth 20000 in
theorem px_hc205 : px_hcP 205 := rfl
set_option maxRecDepth 20000 in
theorem px_hc206 : px_hcP 206 := rfl
set_option maxRecDepth 20000 in
theorem px_hc207 : px_hcP 207 := rfl
set_option maxRecDepth 20000 in
theorem px_hc208 : px_hcP 208 := rfl
set_option maxRecDepth 20000 in
theorem px_hc209 : px_hcP 209 := rfl
set_option maxRecDepth 20000 in
theorem px_hc210 : px_hcP 210 := rfl
set_option maxRecDepth 20000 in
theorem px_hc211 : px_hcP 211 := rfl
set_option maxRecDepth 20000 in
theorem px_hc212 : px_hcP 212 := rfl
set_option maxRecDepth 20000 in
theorem px_hc213 : px_hcP 213 := rfl
set_option maxRecDepth 20000 in
theorem px_hc214 : px_hcP 214 := rfl
set_option maxRecDepth 20000 in
theorem px_hc215 : px_hcP 215 := rfl
set_option maxRecDepth 20000 in
theorem px_hc216 : px_hcP 216 := rfl
set_option maxRecDepth 20000 in
theorem px_hc217 : px_hcP 217 := rfl
set_option maxRecDepth 20000 in
theorem px_hc218 : px_hcP 218 := rfl
set_option maxRecDepth 20000 in
theorem px_hc219 : px_hcP 219 := rfl
set_option maxRecDepth 20000 in
theorem px_hc220 : px_hcP 220 := rfl
set_option maxRecDepth 20000 in
theorem px_hc221 : px_hcP 221 := rfl
set_option maxRecDepth 20000 in
theorem px_hc222 : px_hcP 222 := rfl
set_option maxRecDepth 20000 in
theorem px_hc223 : px_hcP 223 := rfl
set_option maxRecDepth 20000 in
theorem px_hc224 : px_hcP 224 := rfl
set_option maxRecDepth 20000 in
theorem px_hc225 : px_hcP 225 := rfl
set_option maxRecDepth 20000 in
theorem px_hc226 : px_hcP 226 := rfl
set_option maxRecDepth 20000 in
theorem px_hc227 : px_hcP 227 := rfl
set_option maxRecDepth 20000 in
theorem px_hc228 : px_hcP 228 := rfl
set_option maxRecDepth 20000 in
theorem px_hc229 : px_hcP 229 := rfl
set_option maxRecDepth 20000 in
theorem px_hc230 : px_hcP 230 := rfl
set_option maxRecDepth 20000 in
theorem px_hc231 : px_hcP 231 := rfl
set_option maxRecDepth 20000 in
theorem px_hc232 : px_hcP 232 := rfl
set_option maxRecDepth 20000 in
theorem px_hc233 : px_hcP 233 := rfl
set_option maxRecDepth 20000 in
theorem px_hc234 : px_hcP 234 := rfl
set_option maxRecDepth 20000 in
theorem px_hc235 : px_hcP 235 := rfl
set_option maxRecDepth 20000 in
theorem px_hc236 : px_hcP 236 := rfl
set_option maxRecDepth 20000 in
theorem px_hc237 : px_hcP 237 := rfl
set_option maxRecDepth 20000 in
theorem px_hc238 : px_hcP 238 := rfl
set_option maxRecDepth 20000 in
theorem px_hc239 : px_hcP 239 := rfl
set_option maxRecDepth 20000 in
theorem px_hc240 : px_hcP 240 := rfl
set_option maxRecDepth 20000 in
theorem px_hc241 : px_hcP 241 := rfl
set_option maxRecDepth 20000 in
theorem px_hc242 : px_hcP 242 := rfl
set_option maxRecDepth 20000 in
theorem px_hc243 : px_hcP 243 := rfl
set_option maxRecDepth 20000 in
theorem px_hc244 : px_hcP 244 := rfl
set_option maxRecDepth 20000 in
theorem px_hc245 : px_hcP 245 := rfl
set_option maxRecDepth 20000 in
theorem px_hc246 : px_hcP 246 := rfl
set_option maxRecDepth 20000 in
theorem px_hc247 : px_hcP 247 := rfl
set_option maxRecDepth 20000 in
theorem px_hc248 : px_hcP 248 := rfl
set_option maxRecDepth 20000 in
theorem px_hc249 : px_hcP 249 := rfl
set_option maxRecDepth 20000 in
theorem px_hc250 : px_hcP 250 := rfl
set_option maxRecDepth 20000 in
theorem px_hc251 : px_hcP 251 := rfl
set_option maxRecDepth 20000 in
theorem px_hc252 : px_hcP 252 := rfl
set_option maxRecDepth 20000 in
theorem px_hc253 : px_hcP 253 := rfl
set_option maxRecDepth 20000 in
theorem px_hc254 : px_hcP 254 := rfl
set_option maxRecDepth 20000 in
theorem px_hc255 : px_hcP 255 := rfl
set_option maxRecDepth 20000 in
theorem px_hc256 : px_hcP 256 := rfl
set_option maxRecDepth 20000 in
theorem px_hc257 : px_hcP 257 := rfl
set_option maxRecDepth 20000 in
theorem px_hc258 : px_hcP 258 := rfl
set_option maxRecDepth 20000 in
theorem px_hc259 : px_hcP 259 := rfl
theorem px_hcA0 : ∀ k ∈ [0, 1, 2, 3, 4, 5, 6, 7, 8, 9, 10, 11, 12, 13, 14, 15, 16, 17, 18, 19], px_hcP k := List.forall_mem_cons.mpr ⟨px_hc0, List.forall_mem_cons.mpr ⟨px_hc1, List.forall_mem_cons.mpr ⟨px_hc2, List.forall_mem_cons.mpr ⟨px_hc3, List.forall_mem_cons.mpr ⟨px_hc4, List.forall_mem_cons.mpr ⟨px_hc5, List.forall_mem_cons.mpr ⟨px_hc6, List.forall_mem_cons.mpr ⟨px_hc7, List.forall_mem_cons.mpr ⟨px_hc8, List.forall_mem_cons.mpr ⟨px_hc9, List.forall_mem_cons.mpr ⟨px_hc10, List.forall_mem_cons.mpr ⟨px_hc11, List.forall_mem_cons.mpr ⟨px_hc12, List.forall_mem_cons.mpr ⟨px_hc13, List.forall_mem_cons.mpr ⟨px_hc14, List.forall_mem_cons.mpr ⟨px_hc15, List.forall_mem_cons.mpr ⟨px_hc16, List.forall_mem_cons.mpr ⟨px_hc17, List.forall_mem_cons.mpr ⟨px_hc18, List.forall_mem_cons.mpr ⟨px_hc19, fun _ h => absurd h List.not_mem_nil⟩⟩⟩⟩⟩⟩⟩⟩⟩⟩⟩⟩⟩⟩⟩⟩⟩⟩⟩⟩
theorem px_hcA20 : ∀ k ∈ [20, 21, 22, 23, 24, 25, 26, 27, 28, 29, 30, 31, 32, 33, 34, 35, 36, 37, 38, 39], px_hcP k := List.forall_mem_cons.mpr ⟨px_hc20, List.forall_mem_cons.mpr ⟨px_hc21, List.forall_mem_cons.mpr ⟨px_hc22, List.forall_mem_cons.mpr ⟨px_hc23, List.forall_mem_cons.mpr ⟨px_hc24, List.forall_mem_cons.mpr ⟨px_hc25, List.forall_mem_cons.mpr ⟨px_hc26, List.forall_mem_cons.mpr ⟨px_hc27, List.forall_mem_cons.mpr ⟨px_hc28, List.forall_mem_cons.mpr ⟨px_hc29, List.forall_mem_cons.mpr ⟨px_hc30, List.forall_mem_cons.mpr ⟨px_hc31, List.forall_mem_cons.mpr ⟨px_hc32, List.forall_mem_cons.mpr ⟨px_hc33, List.forall_mem_cons.mpr ⟨px_hc34, List.forall_mem_cons.mpr ⟨px_hc35, List.forall_mem_cons.mpr ⟨px_hc36, List.forall_mem_cons.mpr ⟨px_hc37, List.forall_mem_cons.mpr ⟨px_hc38, List.forall_mem_cons.mpr ⟨px_hc39, fun _ h => absurd h List.not_mem_nil⟩⟩⟩⟩⟩⟩⟩⟩⟩⟩⟩⟩⟩⟩⟩⟩⟩⟩⟩⟩
theorem px_hcA40 : ∀ k ∈ [40, 41, 42, 43, 44, 45, 46, 47, 48, 49, 50, 51, 52, 53, 54, 55, 56, 57, 58, 59], px_hcP k := List.forall_mem_cons.mpr ⟨px_hc40, List.forall_mem_cons.mpr ⟨px_hc41, List.forall_mem_cons.mpr ⟨px_hc42, List.forall_mem_cons.mpr ⟨px_hc43, List.forall_mem_cons.mpr ⟨px_hc44, List.forall_mem_cons.mpr ⟨px_hc45, List.forall_mem_cons.mpr ⟨px_hc46, List.forall_mem_cons.mpr ⟨px_hc47, List.forall_mem_cons.mpr ⟨px_hc48, List.forall_mem_cons.mpr ⟨px_hc49, List.forall_mem_cons.mpr ⟨px_hc50, List.forall_mem_cons.mpr ⟨px_hc51, List.forall_mem_cons.mpr ⟨px_hc52, List.forall_mem_cons.mpr ⟨px_hc53, List.forall_mem_cons.mpr ⟨px_hc54, List.forall_mem_cons.mpr ⟨px_hc55, List.forall_mem_cons.mpr ⟨px_hc56, List.forall_mem_cons.mpr ⟨px_hc57, List.forall_mem_cons.mpr ⟨px_hc58, List.forall_mem_cons.mpr ⟨px_hc59, fun _ h => absurd h List.not_mem_nil⟩⟩⟩⟩⟩⟩⟩⟩⟩⟩⟩⟩⟩⟩⟩⟩⟩⟩⟩⟩
theorem px_hcA60 : ∀ k ∈ [60, 61, 62, 63, 64, 65, 66, 67, 68, 69, 70, 71, 72, 73, 74, 75, 76, 77, 78, 79], px_hcP k := List.forall_mem_cons.mpr ⟨px_hc60, List.forall_mem_cons.mpr ⟨px_hc61, List.forall_mem_cons.mpr ⟨px_hc62, List.forall_mem_cons.mpr ⟨px_hc63, List.forall_mem_cons.mpr ⟨px_hc64, List.forall_mem_cons.mpr ⟨px_hc65, List.forall_mem_cons.mpr ⟨px_hc66, List.forall_mem_cons.mpr ⟨px_hc67, List.forall_mem_cons.mpr ⟨px_hc68, List.forall_mem_cons.mpr ⟨px_hc69, List.forall_mem_cons.mpr ⟨px_hc70, List.forall_mem_cons.mpr ⟨px_hc71, List.forall_mem_cons.mpr ⟨px_hc72, List.forall_mem_cons.mpr ⟨px_hc73, List.forall_mem_cons.mpr ⟨px_hc74, List.forall_mem_cons.mpr ⟨px_hc75, List.forall_mem_cons.mpr ⟨px_hc76, List.forall_mem_cons.mpr ⟨px_hc77, List.forall_mem_cons.mpr ⟨px_hc78, List.forall_mem_cons.mpr ⟨px_hc79, fun _ h => absurd h List.not_mem_nil⟩⟩⟩⟩⟩⟩⟩⟩⟩⟩⟩⟩⟩⟩⟩⟩⟩⟩⟩⟩
theorem px_hcA80 : ∀ k ∈ [80, 81, 82, 83, 84, 85, 86, 87, 88, 89, 90, 91, 92, 93, 94, 95, 96, 97, 98, 99], px_hcP k := List.forall_mem_cons.mpr ⟨px_hc80, List.forall_mem_cons.mpr ⟨px_hc81, List.forall_mem_cons.mpr ⟨px_hc82, List.forall_mem_cons.mpr ⟨px_hc83, List.forall_mem_cons.mpr ⟨px_hc84, List.forall_mem_cons.mpr ⟨px_hc85, List.forall_mem_cons.mpr ⟨px_hc86, List.forall_mem_cons.mpr ⟨px_hc87, List.forall_mem_cons.mpr ⟨px_hc88, List.forall_mem_cons.mpr ⟨px_hc89, List.forall_mem_cons.mpr ⟨px_hc90, List.forall_mem_cons.mpr ⟨px_hc91, List.forall_mem_cons.mpr ⟨px_hc92, List.forall_mem_cons.mpr ⟨px_hc93, List.forall_mem_cons.mpr ⟨px_hc94, List.forall_mem_cons.mpr ⟨px_hc95, List.forall_mem_cons.mpr ⟨px_hc96, List.forall_mem_cons.mpr ⟨px_hc97, List.forall_mem_cons.mpr ⟨px_hc98, List.forall_mem_cons.mpr ⟨px_hc99, fun _ h => absurd h List.not_mem_nil⟩⟩⟩⟩⟩⟩⟩⟩⟩⟩⟩⟩⟩⟩⟩⟩⟩⟩⟩⟩
theorem px_hcA100 : ∀ k ∈ [100, 101, 102, 103, 104, 105, 106, 107, 108, 109, 110, 111, 112, 113, 114, 115, 116, 117, 118, 119], px_hcP k := List.forall_mem_cons.mpr ⟨px_hc100, List.forall_mem_cons.mpr ⟨px_hc101, List.forall_mem_cons.mpr ⟨px_hc102, List.forall_mem_cons.mpr ⟨px_hc103, List.forall_mem_cons.mpr ⟨px_hc104, List.forall_mem_cons.mpr ⟨px_hc105, List.forall_mem_cons.mpr ⟨px_hc106, List.forall_mem_cons.mpr ⟨px_hc107, List.forall_mem_cons.mpr ⟨px_hc108, List.forall_mem_cons.mpr ⟨px_hc109, List.forall_mem_cons.mpr ⟨px_hc110, List.forall_mem_cons.mpr ⟨px_hc111, List.forall_mem_cons.mpr ⟨px_hc112, List.forall_mem_cons.mpr ⟨px_hc113, List.forall_mem_cons.mpr ⟨px_hc114, List.forall_mem_cons.mpr ⟨px_hc115, List.forall_mem_cons.mpr ⟨px_hc116, List.forall_mem_cons.mpr ⟨px_hc117, List.forall_mem_cons.mpr ⟨px_hc118, List.forall_mem_cons.mpr ⟨px_hc119, fun _ h => absurd h List.not_mem_nil⟩⟩⟩⟩⟩⟩⟩⟩⟩⟩⟩⟩⟩⟩⟩⟩⟩⟩⟩⟩
theorem px_hcA120 : ∀ k ∈ [120, 121, 122, 123, 124, 125, 126, 127, 128, 129, 130, 131, 132, 133, 134, 135, 136, 137, 138, 139], px_hcP k := List.forall_mem_cons.mpr ⟨px_hc120, List.forall_mem_cons.mpr ⟨px_hc121, List.forall_mem_cons.mpr ⟨px_hc122, List.forall_mem_cons.mpr ⟨px_hc123, List.forall_mem_cons.mpr ⟨px_hc124, List.forall_mem_cons.mpr ⟨px_hc125, List.forall_mem_cons.mpr ⟨px_hc126, List.forall_mem_cons.mpr ⟨px_hc127, List.forall_mem_cons.mpr ⟨px_hc128, List.forall_mem_cons.mpr ⟨px_hc129, List.forall_mem_cons.mpr ⟨px_hc130, List.forall_mem_cons.mpr ⟨px_hc131, List.forall_mem_cons.mpr ⟨px_hc132, List.forall_mem_cons.mpr ⟨px_hc133, List.forall_mem_cons.mpr ⟨px_hc134, List.forall_mem_cons.mpr ⟨px_hc135, List.forall_mem_cons.mpr ⟨px_hc136, List.forall_mem_cons.mpr ⟨px_hc137, List.forall_mem_cons.mpr ⟨px_hc138, List.forall_mem_cons.mpr ⟨px_hc139, fun _ h => absurd h List.not_mem_nil⟩⟩⟩⟩⟩⟩⟩⟩⟩⟩⟩⟩⟩⟩⟩⟩⟩⟩⟩⟩
theorem px_hcA140 : ∀ k ∈ [140, 141, 142, 143, 144, 145, 146, 147, 148, 149, 150, 151, 152, 153, 154, 155, 156, 157, 158, 159], px_hcP k := List.forall_mem_cons.mpr ⟨px_hc140, List.forall_mem_cons.mpr ⟨px_hc141, List.forall_mem_cons.mpr ⟨px_hc142, List.forall_mem_cons.mpr ⟨px_hc143, List.forall_mem_cons.mpr ⟨px_hc144, List.forall_mem_cons.mpr ⟨px_hc145, List.forall_mem_cons.mpr ⟨px_hc146, List.forall_mem_cons.mpr ⟨px_hc147, List.forall_mem_cons.mpr ⟨px_hc148, List.forall_mem_cons.mpr ⟨px_hc149, List.forall_mem_cons.mpr ⟨px_hc150, List.forall_mem_cons.mpr ⟨px_hc151, List.forall_mem_cons.mpr ⟨px_hc152, List.forall_mem_cons.mpr ⟨px_hc153, List.forall_mem_cons.mpr ⟨px_hc154, List.forall_mem_cons.mpr ⟨px_hc155, List.forall_mem_cons.mpr ⟨px_hc156, List.forall_mem_cons.mpr ⟨px_hc157, List.forall_mem_cons.mpr ⟨px_hc158, List.forall_mem_cons.mpr ⟨px_hc159, fun _ h => absurd h List.not_mem_nil⟩⟩⟩⟩⟩⟩⟩⟩⟩⟩⟩⟩⟩⟩⟩⟩⟩⟩⟩⟩
theorem px_hcA160 : ∀ k ∈ [160, 161, 162, 163, 164, 165, 166, 167, 168, 169, 170, 171, 172, 173, 174, 175, 176, 177, 178, 179], px_hcP k := List.forall_mem_cons.mpr ⟨px_hc160, List.forall_mem_cons.mpr ⟨px_hc161, List.forall_mem_cons.mpr ⟨px_hc162, List.forall_mem_cons.mpr ⟨px_hc163, List.forall_mem_cons.mpr ⟨px_hc164, List.forall_mem_cons.mpr ⟨px_hc165, List.forall_mem_cons.mpr ⟨px_hc166, List.forall_mem_cons.mpr ⟨px_hc167, List.forall_mem_cons.mpr ⟨px_hc168, List.forall_mem_cons.mpr ⟨px_hc169, List.forall_mem_cons.mpr ⟨px_hc170, List.forall_mem_cons.mpr ⟨px_hc171, List.forall_mem_cons.mpr ⟨px_hc172, List.forall_mem_cons.mpr ⟨px_hc173, List.forall_mem_cons.mpr ⟨px_hc174, List.forall_mem_cons.mpr ⟨px_hc175, List.forall_mem_cons.mpr ⟨px_hc176, List.forall_mem_cons.mpr ⟨px_hc177, List.forall_mem_cons.mpr ⟨px_hc178, List.forall_mem_cons.mpr ⟨px_hc179, fun _ h => absurd h List.not_mem_nil⟩⟩⟩⟩⟩⟩⟩⟩⟩⟩⟩⟩⟩⟩⟩⟩⟩⟩⟩⟩
theorem px_hcA180 : ∀ k ∈ [180, 181, 182, 183, 184, 185, 186, 187, 188, 189, 190, 191, 192, 193, 194, 195, 196, 197, 198, 199], px_hcP k := List.forall_mem_cons.mpr ⟨px_hc180, List.forall_mem_cons.mpr ⟨px_hc181, List.forall_mem_cons.mpr ⟨px_hc182, List.forall_mem_cons.mpr ⟨px_hc183, List.forall_mem_cons.mpr ⟨px_hc184, List.forall_mem_cons.mpr ⟨px_hc185, List.forall_mem_cons.mpr ⟨px_hc186, List.forall_mem_cons.mpr ⟨px_hc187, List.forall_mem_cons.mpr ⟨px_hc188, List.forall_mem_cons.mpr ⟨px_hc189, List.forall_mem_cons.mpr ⟨px_hc190, List.forall_mem_cons.mpr ⟨px_hc191, List.forall_mem_cons.mpr ⟨px_hc192, List.forall_mem_cons.mpr ⟨px_hc193, List.forall_mem_cons.mpr ⟨px_hc194, List.forall_mem_cons.mpr ⟨px_hc195, List.forall_mem_cons.mpr ⟨px_hc196, List.forall_mem_cons.mpr ⟨px_hc197, List.forall_mem_cons.mpr ⟨px_hc198, List.forall_mem_cons.mpr ⟨px_hc199, fun _ h => absurd h List.not_mem_nil⟩⟩⟩⟩⟩⟩⟩⟩⟩⟩⟩⟩⟩⟩⟩⟩⟩⟩⟩⟩
theorem px_hcA200 : ∀ k ∈ [200, 201, 202, 203, 204, 205, 206, 207, 208, 209, 210, 211, 212, 213, 214, 215, 216, 217, 218, 219], px_hcP k := List.forall_mem_cons.mpr ⟨px_hc200, List.forall_mem_cons.mpr ⟨px_hc201, List.forall_mem_cons.mpr ⟨px_hc202, List.forall_mem_cons.mpr ⟨px_hc203, List.forall_mem_cons.mpr ⟨px_hc204, List.forall_mem_cons.mpr ⟨px_hc205, List.forall_mem_cons.mpr ⟨px_hc206, List.forall_mem_cons.mpr ⟨px_hc207, List.forall_mem_cons.mpr ⟨px_hc208, List.forall_mem_cons.mpr ⟨px_hc209, List.forall_mem_cons.mpr ⟨px_hc210, List.forall_mem_cons.mpr ⟨px_hc211, List.forall_mem_cons.mpr ⟨px_hc212, List.forall_mem_cons.mpr ⟨px_hc213, List.forall_mem_cons.mpr ⟨px_hc214, List.forall_mem_cons.mpr ⟨px_hc215, List.forall_mem_cons.mpr ⟨px_hc216, List.forall_mem_cons.mpr ⟨px_hc217, List.forall_mem_cons.mpr ⟨px_hc218, List.forall_mem_cons.mpr ⟨px_hc219, fun _ h => absurd h List.not_mem_nil⟩⟩⟩⟩⟩⟩⟩⟩⟩⟩⟩⟩⟩⟩⟩⟩⟩⟩⟩⟩
theorem px_hcA220 : ∀ k ∈ [220, 221, 222, 223, 224, 225, 226, 227, 228, 229, 230, 231, 232, 233, 234, 235, 236, 237, 238, 239], px_hcP k := List.forall_mem_cons.mpr ⟨px_hc220, List.forall_mem_cons.mpr ⟨px_hc221, List.forall_mem_cons.mpr ⟨px_hc222, List.forall_mem_cons.mpr ⟨px_hc223, List.forall_mem_cons.mpr ⟨px_hc224, List.forall_mem_cons.mpr ⟨px_hc225, List.forall_mem_cons.mpr ⟨px_hc226, List.forall_mem_cons.mpr ⟨px_hc227, List.forall_mem_cons.mpr ⟨px_hc228, List.forall_mem_cons.mpr ⟨px_hc229, List.forall_mem_cons.mpr ⟨px_hc230, List.forall_mem_cons.mpr ⟨px_hc231, List.forall_mem_cons.mpr ⟨px_hc232, List.forall_mem_cons.mpr ⟨px_hc233, List.forall_mem_cons.mpr ⟨px_hc234, List.forall_mem_cons.mpr ⟨px_hc235, List.forall_mem_cons.mpr ⟨px_hc236, List.forall_mem_cons.mpr ⟨px_hc237, List.forall_mem_cons.mpr ⟨px_hc238, List.forall_mem_cons.mpr ⟨px_hc239, fun _ h => absurd h List.not_mem_nil⟩⟩⟩⟩⟩⟩⟩⟩⟩⟩⟩⟩⟩⟩⟩⟩⟩⟩⟩⟩
theorem px_hcA240 : ∀ k ∈ [240, 241, 242, 243, 244, 245, 246, 247, 248, 249, 250, 251, 252, 253, 254, 255, 256, 257, 258, 259], px_hcP k := List.forall_mem_cons.mpr ⟨px_hc240, List.forall_mem_cons.mpr ⟨px_hc241, List.forall_mem_cons.mpr ⟨px_hc242, List.forall_mem_cons.mpr ⟨px_hc243, List.forall_mem_cons.mpr ⟨px_hc244, List.forall_mem_cons.mpr ⟨px_hc245, List.forall_mem_cons.mpr ⟨px_hc246, List.forall_mem_cons.mpr ⟨px_hc247, List.forall_mem_cons.mpr ⟨px_hc248, List.forall_mem_cons.mpr ⟨px_hc249, List.forall_mem_cons.mpr ⟨px_hc250, List.forall_mem_cons.mpr ⟨px_hc251, List.forall_mem_cons.mpr ⟨px_hc252, List.forall_mem_cons.mpr ⟨px_hc253, List.forall_mem_cons.mpr ⟨px_hc254, List.forall_mem_cons.mpr ⟨px_hc255, List.forall_mem_cons.mpr ⟨px_hc256, List.forall_mem_cons.mpr ⟨px_hc257, List.forall_mem_cons.mpr ⟨px_hc258, List.forall_mem_cons.mpr ⟨px_hc259, fun _ h => absurd h List.not_mem_nil⟩⟩⟩⟩⟩⟩⟩⟩⟩⟩⟩⟩⟩⟩⟩⟩⟩⟩⟩⟩
theorem px_hc {k : Nat} (h : k < px_law) : px_hcP k := by
  have h' : k < 260 := h
  rcases (show (0 ≤ k ∧ k < 20) ∨ (20 ≤ k ∧ k < 40) ∨ (40 ≤ k ∧ k < 60) ∨ (60 ≤ k ∧ k < 80) ∨ (80 ≤ k ∧ k < 100) ∨ (100 ≤ k ∧ k < 120) ∨ (120 ≤ k ∧ k < 140) ∨ (140 ≤ k ∧ k < 160) ∨ (160 ≤ k ∧ k < 180) ∨ (180 ≤ k ∧ k < 200) ∨ (200 ≤ k ∧ k < 220) ∨ (220 ≤ k ∧ k < 240) ∨ (240 ≤ k ∧ k < 260) by omega) with h | h | h | h | h | h | h | h | h | h | h | h | h
  · exact px_hcA0 k (by simp only [List.mem_cons, List.not_mem_nil, or_false]; omega)
  · exact px_hcA20 k (by simp only [List.mem_cons, List.not_mem_nil, or_false]; omega)
  · exact px_hcA40 k (by simp only [List.mem_cons, List.not_mem_nil, or_false]; omega)
  · exact px_hcA60 k (by simp only [List.mem_cons, List.not_mem_nil, or_false]; omega)
  · exact px_hcA80 k (by simp only [List.mem_cons, List.not_mem_nil, or_false]; omega)
  · exact px_hcA100 k (by simp only [List.mem_cons, List.not_mem_nil, or_false]; omega)
  · exact px_hcA120 k (by simp only [List.mem_cons, List.not_mem_nil, or_false]; omega)
  · exact px_hcA140 k (by simp only [List.mem_cons, List.not_mem_nil, or_false]; omega)
  · exact px_hcA160 k (by simp only [List.mem_cons, List.not_mem_nil, or_false]; omega)
  · exact px_hcA180 k (by simp only [List.mem_cons, List.not_mem_nil, or_false]; omega)
  · exact px_hcA200 k (by simp only [List.mem_cons, List.not_mem_nil, or_false]; omega)
  · exact px_hcA220 k (by simp only [List.mem_cons, List.not_mem_nil, or_false]; omega)
  · exact px_hcA240 k (by simp only [List.mem_cons, List.not_mem_nil, or_false]; omega)
theorem px_hd_all {k : Nat} (h : k < px_law ∧ (k < 248 ∨ 250 < k)) : Cond.code (px_y k) (px_b k) (px_mx k) (px_rt k) ∈ px_Ts ∧ Cond.initialized (px_own k) ∈ px_Ts ∧ (px_y k).cls = px_own k ∧ plainName (px_own k) = true ∧ px_own k ≠ "java/lang/invoke/MethodHandle" ∧ px_own k ≠ "java/lang/invoke/VarHandle" ∧ (parseMethodDescriptor (px_y k).desc).map (fun d => d.parameters.length) = some (px_np k) ∧ (0 < px_ini k ↔ (px_y k).name = "<init>") ∧ (px_ini k = 0 ∨ px_ini k = px_cn k + 1) ∧ px_sta k ≤ 1 := by
  have h1 := px_hd h.1
  unfold px_hdB at h1
  rw [Bool.or_eq_true] at h1
  have h2 := h1.resolve_left (by
    simp only [Bool.and_eq_true, decide_eq_true_eq]
    omega)
  simp only [Bool.and_eq_true, decide_eq_true_eq] at h2
  obtain ⟨⟨⟨⟨⟨⟨⟨⟨a2, a3⟩, a4⟩, a5⟩, a6⟩, a7⟩, a8⟩, a9⟩, a10⟩ := h2
  exact ⟨List.mem_filter.mpr ⟨List.mem_of_getElem? (px_hc h.1), rfl⟩, px_has_mem a2, a3, a4, a5, a6, a7, a8, a9, a10⟩
def px_ws (k : Nat) : List Cond := .code (px_y k) (px_b k) (px_mx k) (px_rt k) :: px_Ts
def px_rm (k : Nat) : Room := { frames := px_fr k, cells := px_mc k, slots := px_ms k, locals := px_lo k }
theorem px_good_Ts {ws : List Cond} (h : ∀ w ∈ ws, w ∈ px_Ts) : GoodIn px_Ts ws := fun w hw => ⟨h w hw, good_of_word (List.mem_filter.mp (h w hw)).2⟩
theorem px_ws_Ts {k : Nat} (h : k < px_law ∧ (k < 248 ∨ 250 < k)) : ∀ w ∈ px_ws k, w ∈ px_Ts := fun w hw => by
  rcases List.mem_cons.mp hw with rfl | hw
  · exact (px_hd_all h).1
  · exact hw
/-- a method's start -/
def px_Pc (D : va_G) (tc : Nat → ClassId) (X : px_X) (z : Value) (ad : Nat → Nat) (h : px_H) (vs : List Value) (sz : Nat) : Array Value → State → Prop :=
  va_Pc (vs.map (px_rl ad z)) (fun U => U.heap.size = sz ∧ va_P D vwCl (px_w tc ad h) U.heap ∧ va_K D vwCl (px_tys tc) U ∧ va_D (fun _ => True) (px_w tc ad h) ∧ px_Ex ad z X (va_A (px_w tc ad h) sz) U U.heap)
theorem px_Pc_blind (D : va_G) (tc : Nat → ClassId) (X : px_X) (z : Value) (ad : Nat → Nat) (h : px_H) (vs : List Value) (sz : Nat) : FrameBlind (px_Pc D tc X z ad h vs sz) :=
  fun a U g mk q => ⟨q.1, q.2.1, q.2.2.1, va_K.moved (u := U) (U := U.calling g mk a) (Vm.Alike.refl U.vm) q.2.2.2.1, q.2.2.2.2.1, px_Ex.same (s := U) (U := U.calling g mk a) q.2.2.2.2.2 rfl⟩
/-- and its end -/
def px_Qc (D : va_G) (tc : Nat → ClassId) (z : Value) (ad : Nat → Nat) (h : px_H) (sz : Nat) (v : Option Value) (h' : px_H) : Array Value → State → Outcome → State → Prop := fun _ st oc t =>
  ((∃ ad' : Nat → Nat, (∀ i, ¬ (h.1.length ≤ i ∧ i < h'.1.length) → ad' i = ad i) ∧ oc = .returned (v.map (px_rl ad' z)) ∧ va_P D vwCl (px_w tc ad' h') t.heap ∧ va_D (va_A (px_w tc ad h) sz) (px_w tc ad' h')) ∧ h.1.length ≤ h'.1.length) ∧ va_F (va_A (px_w tc ad h) sz) st t
theorem px_entl_args {f : Value → Value} (hf : ∀ v, (f v).category = v.category) : ∀ (vs : List Value) (base i : Nat) (v : Value), (px_entl vs)[i]? = some v → v ≠ .null → (base + i, f v) ∈ lv_args base (vs.map f)
  | [], _, _, _, h, _ => by cases h
  | w :: vs, base, i, v, h, hv => by
    have e : px_entl (w :: vs) = (if w.category = 2 then [w, .null] else [w]) ++ px_entl vs := rfl
    rw [e] at h
    show (base + i, f v) ∈ (base, f w) :: lv_args (if (f w).category = 2 then base + 2 else base + 1) (vs.map f)
    rw [hf]
    by_cases hc : w.category = 2
    · rw [if_pos hc] at h ⊢
      match i, h with
      | 0, h => cases h; exact List.mem_cons_self
      | 1, h => cases h; exact absurd rfl hv
      | i + 2, h =>
        have := px_entl_args hf vs (base + 2) i v (by simpa using h) hv
        rw [show base + 2 + i = base + (i + 2) by omega] at this
        exact List.mem_cons_of_mem _ this
    · rw [if_neg hc] at h ⊢
      match i, h with
      | 0, h => cases h; exact List.mem_cons_self
      | i + 1, h =>
        have := px_entl_args hf vs (base + 1) i v (by simpa using h) hv
        rw [show base + 1 + i = base + (i + 1) by omega] at this
        exact List.mem_cons_of_mem _ this
theorem px_lg_len {f : Value → Value} (hf : ∀ v, (f v).category = v.category) : ∀ (vs : List Value), (lg_sl (vs.map f)).length = (px_entl vs).length
  | [] => rfl
  | w :: vs => by
    have e : px_entl (w :: vs) = (if w.category = 2 then [w, .null] else [w]) ++ px_entl vs := rfl
    have e2 : lg_sl ((w :: vs).map f) = (if (f w).category = 2 then [.val (f w), .second] else [.val (f w)]) ++ lg_sl (vs.map f) := rfl
    rw [e, e2, List.length_append, List.length_append, px_lg_len hf vs, hf]
    by_cases hc : w.category = 2 <;> simp [hc]
theorem px_Lr_entry {ad : Nat → Nat} {z : Value} (hz : z.category = 1) (vs : List Value) {n : Nat} (h : (px_entl vs).length ≤ n) : px_Lr (px_rl ad z) ((lg_sl (vs.map (px_rl ad z)) ++ List.replicate (n - (lg_sl (vs.map (px_rl ad z))).length) Slot.unset).toArray) n (px_ent vs n) := by
  have hf := px_rl_cat (ad := ad) hz
  have h1 := lv_entry (vs.map (px_rl ad z)) (n := n) (by rw [px_lg_len hf]; exact h)
  refine ⟨h1.1, h1.2.1, ?_, fun i v hi hv => ?_⟩
  · unfold px_ent
    rw [List.length_append, List.length_replicate]; omega
  · refine h1.2.2 (i, px_rl ad z v) ?_
    unfold px_ent at hi
    rcases Nat.lt_or_ge i (px_entl vs).length with hl | hl
    · rw [List.getElem?_append_left hl] at hi
      have := px_entl_args hf vs 0 i v hi hv
      rwa [Nat.zero_add] at this
    · rw [List.getElem?_append_right hl, List.getElem?_replicate] at hi
      split at hi
      · exact absurd (Option.some.inj hi).symm hv
      · cases hi
